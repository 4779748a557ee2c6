theorem dL_law_1692 : decode cL_law 1692 = .ok (.aload_n 3, 1) := dc_aload_n_3 (by decide +kernel)
theorem dL_law_1693 : decode cL_law 1693 = .ok (.iconst 0, 1) := dc_iconst_0 (by decide +kernel)
theorem dL_law_1694 : decode cL_law 1694 = .ok (.laload, 1) := dc_laload (by decide +kernel)
theorem dL_law_1695 : decode cL_law 1695 = .ok (.iload 6, 2) := dc_iload (by decide +kernel) (a := 6) (by decide +kernel) rfl
theorem dL_law_1697 : decode cL_law 1697 = .ok (.i2l, 1) := dc_i2l (by decide +kernel)
theorem dL_law_1698 : decode cL_law 1698 = .ok (.lcmp, 1) := dc_lcmp (by decide +kernel)
theorem dL_law_1699 : decode cL_law 1699 = .ok (.ifCond .eq 5, 3) := dc_ifCond_eq (by decide +kernel) (a := 0) (b := 5) (by decide +kernel) (by decide +kernel) (by decide)
theorem dL_law_1702 : decode cL_law 1702 = .ok (.iconst 0, 1) := dc_iconst_0 (by decide +kernel)
theorem dL_law_1703 : decode cL_law 1703 = .ok (.ireturn, 1) := dc_ireturn (by decide +kernel)
theorem dL_law_1704 : decode cL_law 1704 = .ok (.goto 2847, 3) := dc_goto (by decide +kernel) (a := 11) (b := 31) (by decide +kernel) (by decide +kernel) (by decide)
theorem dL_law_1707 : decode cL_law 1707 = .ok (.aload_n 1, 1) := dc_aload_n_1 (by decide +kernel)
theorem dL_law_1708 : decode cL_law 1708 = .ok (.aload_n 0, 1) := dc_aload_n_0 (by decide +kernel)
theorem dL_law_1709 : decode cL_law 1709 = .ok (.iload 4, 2) := dc_iload (by decide +kernel) (a := 4) (by decide +kernel) rfl
theorem dL_law_1711 : decode cL_law 1711 = .ok (.iconst 1, 1) := dc_iconst_1 (by decide +kernel)
theorem dL_law_1712 : decode cL_law 1712 = .ok (.iadd, 1) := dc_iadd (by decide +kernel)
theorem dL_law_1713 : decode cL_law 1713 = .ok (.iaload, 1) := dc_iaload (by decide +kernel)
theorem dL_law_1714 : decode cL_law 1714 = .ok (.aload_n 0, 1) := dc_aload_n_0 (by decide +kernel)
theorem dL_law_1715 : decode cL_law 1715 = .ok (.iload 4, 2) := dc_iload (by decide +kernel) (a := 4) (by decide +kernel) rfl
theorem dL_law_1717 : decode cL_law 1717 = .ok (.iconst 2, 1) := dc_iconst_2 (by decide +kernel)
theorem dL_law_1718 : decode cL_law 1718 = .ok (.iadd, 1) := dc_iadd (by decide +kernel)
theorem dL_law_1719 : decode cL_law 1719 = .ok (.iaload, 1) := dc_iaload (by decide +kernel)
theorem dL_law_1720 : decode cL_law 1720 = .ok (.ifCond .eq 7, 3) := dc_ifCond_eq (by decide +kernel) (a := 0) (b := 7) (by decide +kernel) (by decide +kernel) (by decide)
theorem dL_law_1723 : decode cL_law 1723 = .ok (.iconst 1, 1) := dc_iconst_1 (by decide +kernel)
theorem dL_law_1724 : decode cL_law 1724 = .ok (.goto 4, 3) := dc_goto (by decide +kernel) (a := 0) (b := 4) (by decide +kernel) (by decide +kernel) (by decide)
theorem dL_law_1727 : decode cL_law 1727 = .ok (.iconst 0, 1) := dc_iconst_0 (by decide +kernel)
theorem dL_law_1728 : decode cL_law 1728 = .ok (.aload_n 3, 1) := dc_aload_n_3 (by decide +kernel)
theorem dL_law_1729 : decode cL_law 1729 = .ok (.invokestatic 251, 3) := dc_invokestatic (by decide +kernel) (a := 0) (b := 251) (by decide +kernel) (by decide +kernel) rfl
theorem dL_law_1732 : decode cL_law 1732 = .ok (.istore 5, 2) := dc_istore (by decide +kernel) (a := 5) (by decide +kernel) rfl
theorem dL_law_1734 : decode cL_law 1734 = .ok (.aload_n 2, 1) := dc_aload_n_2 (by decide +kernel)
theorem dL_law_1735 : decode cL_law 1735 = .ok (.aload_n 0, 1) := dc_aload_n_0 (by decide +kernel)
theorem dL_law_1736 : decode cL_law 1736 = .ok (.iload 4, 2) := dc_iload (by decide +kernel) (a := 4) (by decide +kernel) rfl
theorem dL_law_1738 : decode cL_law 1738 = .ok (.iconst 1, 1) := dc_iconst_1 (by decide +kernel)
theorem dL_law_1739 : decode cL_law 1739 = .ok (.iadd, 1) := dc_iadd (by decide +kernel)
theorem dL_law_1740 : decode cL_law 1740 = .ok (.iaload, 1) := dc_iaload (by decide +kernel)
theorem dL_law_1741 : decode cL_law 1741 = .ok (.aload_n 0, 1) := dc_aload_n_0 (by decide +kernel)
theorem dL_law_1742 : decode cL_law 1742 = .ok (.iload 4, 2) := dc_iload (by decide +kernel) (a := 4) (by decide +kernel) rfl
theorem dL_law_1744 : decode cL_law 1744 = .ok (.iconst 2, 1) := dc_iconst_2 (by decide +kernel)
theorem dL_law_1745 : decode cL_law 1745 = .ok (.iadd, 1) := dc_iadd (by decide +kernel)
theorem dL_law_1746 : decode cL_law 1746 = .ok (.iaload, 1) := dc_iaload (by decide +kernel)
theorem dL_law_1747 : decode cL_law 1747 = .ok (.ifCond .eq 7, 3) := dc_ifCond_eq (by decide +kernel) (a := 0) (b := 7) (by decide +kernel) (by decide +kernel) (by decide)
theorem dL_law_1750 : decode cL_law 1750 = .ok (.iconst 1, 1) := dc_iconst_1 (by decide +kernel)
theorem dL_law_1751 : decode cL_law 1751 = .ok (.goto 4, 3) := dc_goto (by decide +kernel) (a := 0) (b := 4) (by decide +kernel) (by decide +kernel) (by decide)
theorem dL_law_1754 : decode cL_law 1754 = .ok (.iconst 0, 1) := dc_iconst_0 (by decide +kernel)
theorem dL_law_1755 : decode cL_law 1755 = .ok (.invokevirtual 253, 3) := dc_invokevirtual (by decide +kernel) (a := 0) (b := 253) (by decide +kernel) (by decide +kernel) rfl
theorem dL_law_1758 : decode cL_law 1758 = .ok (.istore 6, 2) := dc_istore (by decide +kernel) (a := 6) (by decide +kernel) rfl
theorem dL_law_1760 : decode cL_law 1760 = .ok (.aload_n 2, 1) := dc_aload_n_2 (by decide +kernel)
theorem dL_law_1761 : decode cL_law 1761 = .ok (.invokevirtual 183, 3) := dc_invokevirtual (by decide +kernel) (a := 0) (b := 183) (by decide +kernel) (by decide +kernel) rfl
theorem dL_law_1764 : decode cL_law 1764 = .ok (.iload 5, 2) := dc_iload (by decide +kernel) (a := 5) (by decide +kernel) rfl
theorem dL_law_1766 : decode cL_law 1766 = .ok (.if_icmp .eq 5, 3) := dc_if_icmp_eq (by decide +kernel) (a := 0) (b := 5) (by decide +kernel) (by decide +kernel) (by decide)
theorem dL_law_1769 : decode cL_law 1769 = .ok (.iconst 0, 1) := dc_iconst_0 (by decide +kernel)
theorem dL_law_1770 : decode cL_law 1770 = .ok (.ireturn, 1) := dc_ireturn (by decide +kernel)
theorem dL_law_1771 : decode cL_law 1771 = .ok (.iload 5, 2) := dc_iload (by decide +kernel) (a := 5) (by decide +kernel) rfl
theorem dL_law_1773 : decode cL_law 1773 = .ok (.ifCond .ne 15, 3) := dc_ifCond_ne (by decide +kernel) (a := 0) (b := 15) (by decide +kernel) (by decide +kernel) (by decide)
theorem dL_law_1776 : decode cL_law 1776 = .ok (.aload_n 3, 1) := dc_aload_n_3 (by decide +kernel)
theorem dL_law_1777 : decode cL_law 1777 = .ok (.iconst 0, 1) := dc_iconst_0 (by decide +kernel)
theorem dL_law_1778 : decode cL_law 1778 = .ok (.laload, 1) := dc_laload (by decide +kernel)
theorem dL_law_1779 : decode cL_law 1779 = .ok (.iload 6, 2) := dc_iload (by decide +kernel) (a := 6) (by decide +kernel) rfl
theorem dL_law_1781 : decode cL_law 1781 = .ok (.i2l, 1) := dc_i2l (by decide +kernel)
theorem dL_law_1782 : decode cL_law 1782 = .ok (.lcmp, 1) := dc_lcmp (by decide +kernel)
theorem dL_law_1783 : decode cL_law 1783 = .ok (.ifCond .eq 5, 3) := dc_ifCond_eq (by decide +kernel) (a := 0) (b := 5) (by decide +kernel) (by decide +kernel) (by decide)
theorem dL_law_1786 : decode cL_law 1786 = .ok (.iconst 0, 1) := dc_iconst_0 (by decide +kernel)
theorem dL_law_1787 : decode cL_law 1787 = .ok (.ireturn, 1) := dc_ireturn (by decide +kernel)
theorem dL_law_1788 : decode cL_law 1788 = .ok (.goto 2763, 3) := dc_goto (by decide +kernel) (a := 10) (b := 203) (by decide +kernel) (by decide +kernel) (by decide)
theorem dL_law_1791 : decode cL_law 1791 = .ok (.aload_n 1, 1) := dc_aload_n_1 (by decide +kernel)
theorem dL_law_1792 : decode cL_law 1792 = .ok (.aload_n 0, 1) := dc_aload_n_0 (by decide +kernel)
theorem dL_law_1793 : decode cL_law 1793 = .ok (.iload 4, 2) := dc_iload (by decide +kernel) (a := 4) (by decide +kernel) rfl
theorem dL_law_1795 : decode cL_law 1795 = .ok (.iconst 1, 1) := dc_iconst_1 (by decide +kernel)
theorem dL_law_1796 : decode cL_law 1796 = .ok (.iadd, 1) := dc_iadd (by decide +kernel)
theorem dL_law_1797 : decode cL_law 1797 = .ok (.iaload, 1) := dc_iaload (by decide +kernel)
theorem dL_law_1798 : decode cL_law 1798 = .ok (.aload_n 0, 1) := dc_aload_n_0 (by decide +kernel)
theorem dL_law_1799 : decode cL_law 1799 = .ok (.iload 4, 2) := dc_iload (by decide +kernel) (a := 4) (by decide +kernel) rfl
theorem dL_law_1801 : decode cL_law 1801 = .ok (.iconst 2, 1) := dc_iconst_2 (by decide +kernel)
theorem dL_law_1802 : decode cL_law 1802 = .ok (.iadd, 1) := dc_iadd (by decide +kernel)
theorem dL_law_1803 : decode cL_law 1803 = .ok (.iaload, 1) := dc_iaload (by decide +kernel)
theorem dL_law_1804 : decode cL_law 1804 = .ok (.aload_n 0, 1) := dc_aload_n_0 (by decide +kernel)
theorem dL_law_1805 : decode cL_law 1805 = .ok (.iload 4, 2) := dc_iload (by decide +kernel) (a := 4) (by decide +kernel) rfl
theorem dL_law_1807 : decode cL_law 1807 = .ok (.iconst 3, 1) := dc_iconst_3 (by decide +kernel)
theorem dL_law_1808 : decode cL_law 1808 = .ok (.iadd, 1) := dc_iadd (by decide +kernel)
theorem dL_law_1809 : decode cL_law 1809 = .ok (.iaload, 1) := dc_iaload (by decide +kernel)
theorem dL_law_1810 : decode cL_law 1810 = .ok (.ifCond .eq 7, 3) := dc_ifCond_eq (by decide +kernel) (a := 0) (b := 7) (by decide +kernel) (by decide +kernel) (by decide)
theorem dL_law_1813 : decode cL_law 1813 = .ok (.iconst 1, 1) := dc_iconst_1 (by decide +kernel)
theorem dL_law_1814 : decode cL_law 1814 = .ok (.goto 4, 3) := dc_goto (by decide +kernel) (a := 0) (b := 4) (by decide +kernel) (by decide +kernel) (by decide)
theorem dL_law_1817 : decode cL_law 1817 = .ok (.iconst 0, 1) := dc_iconst_0 (by decide +kernel)
theorem dL_law_1818 : decode cL_law 1818 = .ok (.aload_n 3, 1) := dc_aload_n_3 (by decide +kernel)
theorem dL_law_1819 : decode cL_law 1819 = .ok (.invokestatic 254, 3) := dc_invokestatic (by decide +kernel) (a := 0) (b := 254) (by decide +kernel) (by decide +kernel) rfl
theorem dL_law_1822 : decode cL_law 1822 = .ok (.istore 5, 2) := dc_istore (by decide +kernel) (a := 5) (by decide +kernel) rfl
theorem dL_law_1824 : decode cL_law 1824 = .ok (.aload_n 2, 1) := dc_aload_n_2 (by decide +kernel)
theorem dL_law_1825 : decode cL_law 1825 = .ok (.aload_n 0, 1) := dc_aload_n_0 (by decide +kernel)
theorem dL_law_1826 : decode cL_law 1826 = .ok (.iload 4, 2) := dc_iload (by decide +kernel) (a := 4) (by decide +kernel) rfl
theorem dL_law_1828 : decode cL_law 1828 = .ok (.iconst 1, 1) := dc_iconst_1 (by decide +kernel)
theorem dL_law_1829 : decode cL_law 1829 = .ok (.iadd, 1) := dc_iadd (by decide +kernel)
theorem dL_law_1830 : decode cL_law 1830 = .ok (.iaload, 1) := dc_iaload (by decide +kernel)
theorem dL_law_1831 : decode cL_law 1831 = .ok (.aload_n 0, 1) := dc_aload_n_0 (by decide +kernel)
theorem dL_law_1832 : decode cL_law 1832 = .ok (.iload 4, 2) := dc_iload (by decide +kernel) (a := 4) (by decide +kernel) rfl
theorem dL_law_1834 : decode cL_law 1834 = .ok (.iconst 2, 1) := dc_iconst_2 (by decide +kernel)
theorem dL_law_1835 : decode cL_law 1835 = .ok (.iadd, 1) := dc_iadd (by decide +kernel)
theorem dL_law_1836 : decode cL_law 1836 = .ok (.iaload, 1) := dc_iaload (by decide +kernel)
theorem dL_law_1837 : decode cL_law 1837 = .ok (.aload_n 0, 1) := dc_aload_n_0 (by decide +kernel)
theorem dL_law_1838 : decode cL_law 1838 = .ok (.iload 4, 2) := dc_iload (by decide +kernel) (a := 4) (by decide +kernel) rfl
theorem dL_law_1840 : decode cL_law 1840 = .ok (.iconst 3, 1) := dc_iconst_3 (by decide +kernel)
theorem dL_law_1841 : decode cL_law 1841 = .ok (.iadd, 1) := dc_iadd (by decide +kernel)
theorem dL_law_1842 : decode cL_law 1842 = .ok (.iaload, 1) := dc_iaload (by decide +kernel)
theorem dL_law_1843 : decode cL_law 1843 = .ok (.ifCond .eq 7, 3) := dc_ifCond_eq (by decide +kernel) (a := 0) (b := 7) (by decide +kernel) (by decide +kernel) (by decide)
theorem dL_law_1846 : decode cL_law 1846 = .ok (.iconst 1, 1) := dc_iconst_1 (by decide +kernel)
theorem dL_law_1847 : decode cL_law 1847 = .ok (.goto 4, 3) := dc_goto (by decide +kernel) (a := 0) (b := 4) (by decide +kernel) (by decide +kernel) (by decide)
theorem dL_law_1850 : decode cL_law 1850 = .ok (.iconst 0, 1) := dc_iconst_0 (by decide +kernel)
theorem dL_law_1851 : decode cL_law 1851 = .ok (.invokevirtual 256, 3) := dc_invokevirtual (by decide +kernel) (a := 1) (b := 0) (by decide +kernel) (by decide +kernel) rfl
theorem dL_law_1854 : decode cL_law 1854 = .ok (.istore 6, 2) := dc_istore (by decide +kernel) (a := 6) (by decide +kernel) rfl
theorem dL_law_1856 : decode cL_law 1856 = .ok (.aload_n 2, 1) := dc_aload_n_2 (by decide +kernel)
theorem dL_law_1857 : decode cL_law 1857 = .ok (.invokevirtual 183, 3) := dc_invokevirtual (by decide +kernel) (a := 0) (b := 183) (by decide +kernel) (by decide +kernel) rfl
theorem dL_law_1860 : decode cL_law 1860 = .ok (.iload 5, 2) := dc_iload (by decide +kernel) (a := 5) (by decide +kernel) rfl
theorem dL_law_1862 : decode cL_law 1862 = .ok (.if_icmp .eq 5, 3) := dc_if_icmp_eq (by decide +kernel) (a := 0) (b := 5) (by decide +kernel) (by decide +kernel) (by decide)
theorem dL_law_1865 : decode cL_law 1865 = .ok (.iconst 0, 1) := dc_iconst_0 (by decide +kernel)
theorem dL_law_1866 : decode cL_law 1866 = .ok (.ireturn, 1) := dc_ireturn (by decide +kernel)
theorem dL_law_1867 : decode cL_law 1867 = .ok (.iload 5, 2) := dc_iload (by decide +kernel) (a := 5) (by decide +kernel) rfl
theorem dL_law_1869 : decode cL_law 1869 = .ok (.ifCond .ne 15, 3) := dc_ifCond_ne (by decide +kernel) (a := 0) (b := 15) (by decide +kernel) (by decide +kernel) (by decide)
theorem dL_law_1872 : decode cL_law 1872 = .ok (.aload_n 3, 1) := dc_aload_n_3 (by decide +kernel)
theorem dL_law_1873 : decode cL_law 1873 = .ok (.iconst 0, 1) := dc_iconst_0 (by decide +kernel)
theorem dL_law_1874 : decode cL_law 1874 = .ok (.laload, 1) := dc_laload (by decide +kernel)
theorem dL_law_1875 : decode cL_law 1875 = .ok (.iload 6, 2) := dc_iload (by decide +kernel) (a := 6) (by decide +kernel) rfl
theorem dL_law_1877 : decode cL_law 1877 = .ok (.i2l, 1) := dc_i2l (by decide +kernel)
theorem dL_law_1878 : decode cL_law 1878 = .ok (.lcmp, 1) := dc_lcmp (by decide +kernel)
theorem dL_law_1879 : decode cL_law 1879 = .ok (.ifCond .eq 5, 3) := dc_ifCond_eq (by decide +kernel) (a := 0) (b := 5) (by decide +kernel) (by decide +kernel) (by decide)
theorem dL_law_1882 : decode cL_law 1882 = .ok (.iconst 0, 1) := dc_iconst_0 (by decide +kernel)
theorem dL_law_1883 : decode cL_law 1883 = .ok (.ireturn, 1) := dc_ireturn (by decide +kernel)
theorem dL_law_1884 : decode cL_law 1884 = .ok (.goto 2667, 3) := dc_goto (by decide +kernel) (a := 10) (b := 107) (by decide +kernel) (by decide +kernel) (by decide)
theorem dL_law_1887 : decode cL_law 1887 = .ok (.aload_n 1, 1) := dc_aload_n_1 (by decide +kernel)
theorem dL_law_1888 : decode cL_law 1888 = .ok (.aload_n 0, 1) := dc_aload_n_0 (by decide +kernel)
theorem dL_law_1889 : decode cL_law 1889 = .ok (.iload 4, 2) := dc_iload (by decide +kernel) (a := 4) (by decide +kernel) rfl
theorem dL_law_1891 : decode cL_law 1891 = .ok (.iconst 1, 1) := dc_iconst_1 (by decide +kernel)
theorem dL_law_1892 : decode cL_law 1892 = .ok (.iadd, 1) := dc_iadd (by decide +kernel)
theorem dL_law_1893 : decode cL_law 1893 = .ok (.iaload, 1) := dc_iaload (by decide +kernel)
theorem dL_law_1894 : decode cL_law 1894 = .ok (.aload_n 0, 1) := dc_aload_n_0 (by decide +kernel)
theorem dL_law_1895 : decode cL_law 1895 = .ok (.iload 4, 2) := dc_iload (by decide +kernel) (a := 4) (by decide +kernel) rfl
theorem dL_law_1897 : decode cL_law 1897 = .ok (.iconst 2, 1) := dc_iconst_2 (by decide +kernel)
theorem dL_law_1898 : decode cL_law 1898 = .ok (.iadd, 1) := dc_iadd (by decide +kernel)
theorem dL_law_1899 : decode cL_law 1899 = .ok (.iaload, 1) := dc_iaload (by decide +kernel)
theorem dL_law_1900 : decode cL_law 1900 = .ok (.aload_n 0, 1) := dc_aload_n_0 (by decide +kernel)
theorem dL_law_1901 : decode cL_law 1901 = .ok (.iload 4, 2) := dc_iload (by decide +kernel) (a := 4) (by decide +kernel) rfl
theorem dL_law_1903 : decode cL_law 1903 = .ok (.iconst 3, 1) := dc_iconst_3 (by decide +kernel)
theorem dL_law_1904 : decode cL_law 1904 = .ok (.iadd, 1) := dc_iadd (by decide +kernel)
theorem dL_law_1905 : decode cL_law 1905 = .ok (.iaload, 1) := dc_iaload (by decide +kernel)
theorem dL_law_1906 : decode cL_law 1906 = .ok (.aload_n 0, 1) := dc_aload_n_0 (by decide +kernel)
theorem dL_law_1907 : decode cL_law 1907 = .ok (.iload 4, 2) := dc_iload (by decide +kernel) (a := 4) (by decide +kernel) rfl
theorem dL_law_1909 : decode cL_law 1909 = .ok (.iconst 4, 1) := dc_iconst_4 (by decide +kernel)
theorem dL_law_1910 : decode cL_law 1910 = .ok (.iadd, 1) := dc_iadd (by decide +kernel)
theorem dL_law_1911 : decode cL_law 1911 = .ok (.iaload, 1) := dc_iaload (by decide +kernel)
theorem dL_law_1912 : decode cL_law 1912 = .ok (.ifCond .eq 7, 3) := dc_ifCond_eq (by decide +kernel) (a := 0) (b := 7) (by decide +kernel) (by decide +kernel) (by decide)
theorem dL_law_1915 : decode cL_law 1915 = .ok (.iconst 1, 1) := dc_iconst_1 (by decide +kernel)
theorem dL_law_1916 : decode cL_law 1916 = .ok (.goto 4, 3) := dc_goto (by decide +kernel) (a := 0) (b := 4) (by decide +kernel) (by decide +kernel) (by decide)
theorem dL_law_1919 : decode cL_law 1919 = .ok (.iconst 0, 1) := dc_iconst_0 (by decide +kernel)
theorem dL_law_1920 : decode cL_law 1920 = .ok (.aload_n 3, 1) := dc_aload_n_3 (by decide +kernel)
theorem dL_law_1921 : decode cL_law 1921 = .ok (.invokestatic 257, 3) := dc_invokestatic (by decide +kernel) (a := 1) (b := 1) (by decide +kernel) (by decide +kernel) rfl
theorem dL_law_1924 : decode cL_law 1924 = .ok (.istore 5, 2) := dc_istore (by decide +kernel) (a := 5) (by decide +kernel) rfl
theorem dL_law_1926 : decode cL_law 1926 = .ok (.aload_n 2, 1) := dc_aload_n_2 (by decide +kernel)
theorem dL_law_1927 : decode cL_law 1927 = .ok (.aload_n 0, 1) := dc_aload_n_0 (by decide +kernel)
theorem dL_law_1928 : decode cL_law 1928 = .ok (.iload 4, 2) := dc_iload (by decide +kernel) (a := 4) (by decide +kernel) rfl
theorem dL_law_1930 : decode cL_law 1930 = .ok (.iconst 1, 1) := dc_iconst_1 (by decide +kernel)
theorem dL_law_1931 : decode cL_law 1931 = .ok (.iadd, 1) := dc_iadd (by decide +kernel)
theorem dL_law_1932 : decode cL_law 1932 = .ok (.iaload, 1) := dc_iaload (by decide +kernel)
theorem dL_law_1933 : decode cL_law 1933 = .ok (.aload_n 0, 1) := dc_aload_n_0 (by decide +kernel)
theorem dL_law_1934 : decode cL_law 1934 = .ok (.iload 4, 2) := dc_iload (by decide +kernel) (a := 4) (by decide +kernel) rfl
theorem dL_law_1936 : decode cL_law 1936 = .ok (.iconst 2, 1) := dc_iconst_2 (by decide +kernel)
theorem dL_law_1937 : decode cL_law 1937 = .ok (.iadd, 1) := dc_iadd (by decide +kernel)
theorem dL_law_1938 : decode cL_law 1938 = .ok (.iaload, 1) := dc_iaload (by decide +kernel)
theorem dL_law_1939 : decode cL_law 1939 = .ok (.aload_n 0, 1) := dc_aload_n_0 (by decide +kernel)
theorem dL_law_1940 : decode cL_law 1940 = .ok (.iload 4, 2) := dc_iload (by decide +kernel) (a := 4) (by decide +kernel) rfl
theorem dL_law_1942 : decode cL_law 1942 = .ok (.iconst 3, 1) := dc_iconst_3 (by decide +kernel)
theorem dL_law_1943 : decode cL_law 1943 = .ok (.iadd, 1) := dc_iadd (by decide +kernel)
theorem dL_law_1944 : decode cL_law 1944 = .ok (.iaload, 1) := dc_iaload (by decide +kernel)
theorem dL_law_1945 : decode cL_law 1945 = .ok (.aload_n 0, 1) := dc_aload_n_0 (by decide +kernel)
theorem dL_law_1946 : decode cL_law 1946 = .ok (.iload 4, 2) := dc_iload (by decide +kernel) (a := 4) (by decide +kernel) rfl
theorem dL_law_1948 : decode cL_law 1948 = .ok (.iconst 4, 1) := dc_iconst_4 (by decide +kernel)
theorem dL_law_1949 : decode cL_law 1949 = .ok (.iadd, 1) := dc_iadd (by decide +kernel)
theorem dL_law_1950 : decode cL_law 1950 = .ok (.iaload, 1) := dc_iaload (by decide +kernel)
theorem dL_law_1951 : decode cL_law 1951 = .ok (.ifCond .eq 7, 3) := dc_ifCond_eq (by decide +kernel) (a := 0) (b := 7) (by decide +kernel) (by decide +kernel) (by decide)
theorem dL_law_1954 : decode cL_law 1954 = .ok (.iconst 1, 1) := dc_iconst_1 (by decide +kernel)
theorem dL_law_1955 : decode cL_law 1955 = .ok (.goto 4, 3) := dc_goto (by decide +kernel) (a := 0) (b := 4) (by decide +kernel) (by decide +kernel) (by decide)
theorem dL_law_1958 : decode cL_law 1958 = .ok (.iconst 0, 1) := dc_iconst_0 (by decide +kernel)
theorem dL_law_1959 : decode cL_law 1959 = .ok (.invokevirtual 260, 3) := dc_invokevirtual (by decide +kernel) (a := 1) (b := 4) (by decide +kernel) (by decide +kernel) rfl
theorem dL_law_1962 : decode cL_law 1962 = .ok (.istore 6, 2) := dc_istore (by decide +kernel) (a := 6) (by decide +kernel) rfl
theorem dL_law_1964 : decode cL_law 1964 = .ok (.aload_n 2, 1) := dc_aload_n_2 (by decide +kernel)
theorem dL_law_1965 : decode cL_law 1965 = .ok (.invokevirtual 183, 3) := dc_invokevirtual (by decide +kernel) (a := 0) (b := 183) (by decide +kernel) (by decide +kernel) rfl
theorem dL_law_1968 : decode cL_law 1968 = .ok (.iload 5, 2) := dc_iload (by decide +kernel) (a := 5) (by decide +kernel) rfl
theorem dL_law_1970 : decode cL_law 1970 = .ok (.if_icmp .eq 5, 3) := dc_if_icmp_eq (by decide +kernel) (a := 0) (b := 5) (by decide +kernel) (by decide +kernel) (by decide)
theorem dL_law_1973 : decode cL_law 1973 = .ok (.iconst 0, 1) := dc_iconst_0 (by decide +kernel)
theorem dL_law_1974 : decode cL_law 1974 = .ok (.ireturn, 1) := dc_ireturn (by decide +kernel)
theorem dL_law_1975 : decode cL_law 1975 = .ok (.iload 5, 2) := dc_iload (by decide +kernel) (a := 5) (by decide +kernel) rfl
theorem dL_law_1977 : decode cL_law 1977 = .ok (.ifCond .ne 15, 3) := dc_ifCond_ne (by decide +kernel) (a := 0) (b := 15) (by decide +kernel) (by decide +kernel) (by decide)
theorem dL_law_1980 : decode cL_law 1980 = .ok (.aload_n 3, 1) := dc_aload_n_3 (by decide +kernel)
theorem dL_law_1981 : decode cL_law 1981 = .ok (.iconst 0, 1) := dc_iconst_0 (by decide +kernel)
theorem dL_law_1982 : decode cL_law 1982 = .ok (.laload, 1) := dc_laload (by decide +kernel)
theorem dL_law_1983 : decode cL_law 1983 = .ok (.iload 6, 2) := dc_iload (by decide +kernel) (a := 6) (by decide +kernel) rfl
theorem dL_law_1985 : decode cL_law 1985 = .ok (.i2l, 1) := dc_i2l (by decide +kernel)
theorem dL_law_1986 : decode cL_law 1986 = .ok (.lcmp, 1) := dc_lcmp (by decide +kernel)
theorem dL_law_1987 : decode cL_law 1987 = .ok (.ifCond .eq 5, 3) := dc_ifCond_eq (by decide +kernel) (a := 0) (b := 5) (by decide +kernel) (by decide +kernel) (by decide)
theorem dL_law_1990 : decode cL_law 1990 = .ok (.iconst 0, 1) := dc_iconst_0 (by decide +kernel)
theorem dL_law_1991 : decode cL_law 1991 = .ok (.ireturn, 1) := dc_ireturn (by decide +kernel)
theorem dL_law_1992 : decode cL_law 1992 = .ok (.goto 2559, 3) := dc_goto (by decide +kernel) (a := 9) (b := 255) (by decide +kernel) (by decide +kernel) (by decide)
theorem dL_law_1995 : decode cL_law 1995 = .ok (.aload_n 1, 1) := dc_aload_n_1 (by decide +kernel)
theorem dL_law_1996 : decode cL_law 1996 = .ok (.aload_n 0, 1) := dc_aload_n_0 (by decide +kernel)
theorem dL_law_1997 : decode cL_law 1997 = .ok (.iload 4, 2) := dc_iload (by decide +kernel) (a := 4) (by decide +kernel) rfl
theorem dL_law_1999 : decode cL_law 1999 = .ok (.iconst 1, 1) := dc_iconst_1 (by decide +kernel)
theorem dL_law_2000 : decode cL_law 2000 = .ok (.iadd, 1) := dc_iadd (by decide +kernel)
theorem dL_law_2001 : decode cL_law 2001 = .ok (.iaload, 1) := dc_iaload (by decide +kernel)
theorem dL_law_2002 : decode cL_law 2002 = .ok (.i2l, 1) := dc_i2l (by decide +kernel)
theorem dL_law_2003 : decode cL_law 2003 = .ok (.bipush 32, 2) := dc_bipush (by decide +kernel) (a := 32) (by decide +kernel) (by decide)
theorem dL_law_2005 : decode cL_law 2005 = .ok (.lshl, 1) := dc_lshl (by decide +kernel)
theorem dL_law_2006 : decode cL_law 2006 = .ok (.aload_n 0, 1) := dc_aload_n_0 (by decide +kernel)
theorem dL_law_2007 : decode cL_law 2007 = .ok (.iload 4, 2) := dc_iload (by decide +kernel) (a := 4) (by decide +kernel) rfl
theorem dL_law_2009 : decode cL_law 2009 = .ok (.iconst 2, 1) := dc_iconst_2 (by decide +kernel)
theorem dL_law_2010 : decode cL_law 2010 = .ok (.iadd, 1) := dc_iadd (by decide +kernel)
theorem dL_law_2011 : decode cL_law 2011 = .ok (.iaload, 1) := dc_iaload (by decide +kernel)
theorem dL_law_2012 : decode cL_law 2012 = .ok (.i2l, 1) := dc_i2l (by decide +kernel)
theorem dL_law_2013 : decode cL_law 2013 = .ok (.ldc2_w 261, 3) := dc_ldc2_w (by decide +kernel) (a := 1) (b := 5) (by decide +kernel) (by decide +kernel) rfl
theorem dL_law_2016 : decode cL_law 2016 = .ok (.land, 1) := dc_land (by decide +kernel)
theorem dL_law_2017 : decode cL_law 2017 = .ok (.lor, 1) := dc_lor (by decide +kernel)
theorem dL_law_2018 : decode cL_law 2018 = .ok (.aload_n 0, 1) := dc_aload_n_0 (by decide +kernel)
theorem dL_law_2019 : decode cL_law 2019 = .ok (.iload 4, 2) := dc_iload (by decide +kernel) (a := 4) (by decide +kernel) rfl
theorem dL_law_2021 : decode cL_law 2021 = .ok (.iconst 3, 1) := dc_iconst_3 (by decide +kernel)
theorem dL_law_2022 : decode cL_law 2022 = .ok (.iadd, 1) := dc_iadd (by decide +kernel)
theorem dL_law_2023 : decode cL_law 2023 = .ok (.iaload, 1) := dc_iaload (by decide +kernel)
theorem dL_law_2024 : decode cL_law 2024 = .ok (.ifCond .eq 7, 3) := dc_ifCond_eq (by decide +kernel) (a := 0) (b := 7) (by decide +kernel) (by decide +kernel) (by decide)
theorem dL_law_2027 : decode cL_law 2027 = .ok (.iconst 1, 1) := dc_iconst_1 (by decide +kernel)
theorem dL_law_2028 : decode cL_law 2028 = .ok (.goto 4, 3) := dc_goto (by decide +kernel) (a := 0) (b := 4) (by decide +kernel) (by decide +kernel) (by decide)
theorem dL_law_2031 : decode cL_law 2031 = .ok (.iconst 0, 1) := dc_iconst_0 (by decide +kernel)
theorem dL_law_2032 : decode cL_law 2032 = .ok (.aload_n 3, 1) := dc_aload_n_3 (by decide +kernel)
theorem dL_law_2033 : decode cL_law 2033 = .ok (.invokestatic 263, 3) := dc_invokestatic (by decide +kernel) (a := 1) (b := 7) (by decide +kernel) (by decide +kernel) rfl
theorem dL_law_2036 : decode cL_law 2036 = .ok (.istore 5, 2) := dc_istore (by decide +kernel) (a := 5) (by decide +kernel) rfl
theorem dL_law_2038 : decode cL_law 2038 = .ok (.aload_n 2, 1) := dc_aload_n_2 (by decide +kernel)
theorem dL_law_2039 : decode cL_law 2039 = .ok (.aload_n 0, 1) := dc_aload_n_0 (by decide +kernel)
theorem dL_law_2040 : decode cL_law 2040 = .ok (.iload 4, 2) := dc_iload (by decide +kernel) (a := 4) (by decide +kernel) rfl
theorem dL_law_2042 : decode cL_law 2042 = .ok (.iconst 1, 1) := dc_iconst_1 (by decide +kernel)
theorem dL_law_2043 : decode cL_law 2043 = .ok (.iadd, 1) := dc_iadd (by decide +kernel)
theorem dL_law_2044 : decode cL_law 2044 = .ok (.iaload, 1) := dc_iaload (by decide +kernel)
theorem dL_law_2045 : decode cL_law 2045 = .ok (.i2l, 1) := dc_i2l (by decide +kernel)
theorem dL_law_2046 : decode cL_law 2046 = .ok (.bipush 32, 2) := dc_bipush (by decide +kernel) (a := 32) (by decide +kernel) (by decide)
theorem dL_law_2048 : decode cL_law 2048 = .ok (.lshl, 1) := dc_lshl (by decide +kernel)
theorem dL_law_2049 : decode cL_law 2049 = .ok (.aload_n 0, 1) := dc_aload_n_0 (by decide +kernel)
theorem dL_law_2050 : decode cL_law 2050 = .ok (.iload 4, 2) := dc_iload (by decide +kernel) (a := 4) (by decide +kernel) rfl
theorem dL_law_2052 : decode cL_law 2052 = .ok (.iconst 2, 1) := dc_iconst_2 (by decide +kernel)
theorem dL_law_2053 : decode cL_law 2053 = .ok (.iadd, 1) := dc_iadd (by decide +kernel)
theorem dL_law_2054 : decode cL_law 2054 = .ok (.iaload, 1) := dc_iaload (by decide +kernel)
theorem dL_law_2055 : decode cL_law 2055 = .ok (.i2l, 1) := dc_i2l (by decide +kernel)
theorem dL_law_2056 : decode cL_law 2056 = .ok (.ldc2_w 261, 3) := dc_ldc2_w (by decide +kernel) (a := 1) (b := 5) (by decide +kernel) (by decide +kernel) rfl
theorem dL_law_2059 : decode cL_law 2059 = .ok (.land, 1) := dc_land (by decide +kernel)
theorem dL_law_2060 : decode cL_law 2060 = .ok (.lor, 1) := dc_lor (by decide +kernel)
theorem dL_law_2061 : decode cL_law 2061 = .ok (.aload_n 0, 1) := dc_aload_n_0 (by decide +kernel)
theorem dL_law_2062 : decode cL_law 2062 = .ok (.iload 4, 2) := dc_iload (by decide +kernel) (a := 4) (by decide +kernel) rfl
theorem dL_law_2064 : decode cL_law 2064 = .ok (.iconst 3, 1) := dc_iconst_3 (by decide +kernel)
theorem dL_law_2065 : decode cL_law 2065 = .ok (.iadd, 1) := dc_iadd (by decide +kernel)
theorem dL_law_2066 : decode cL_law 2066 = .ok (.iaload, 1) := dc_iaload (by decide +kernel)
theorem dL_law_2067 : decode cL_law 2067 = .ok (.ifCond .eq 7, 3) := dc_ifCond_eq (by decide +kernel) (a := 0) (b := 7) (by decide +kernel) (by decide +kernel) (by decide)
theorem dL_law_2070 : decode cL_law 2070 = .ok (.iconst 1, 1) := dc_iconst_1 (by decide +kernel)
theorem dL_law_2071 : decode cL_law 2071 = .ok (.goto 4, 3) := dc_goto (by decide +kernel) (a := 0) (b := 4) (by decide +kernel) (by decide +kernel) (by decide)
theorem dL_law_2074 : decode cL_law 2074 = .ok (.iconst 0, 1) := dc_iconst_0 (by decide +kernel)
theorem dL_law_2075 : decode cL_law 2075 = .ok (.invokevirtual 266, 3) := dc_invokevirtual (by decide +kernel) (a := 1) (b := 10) (by decide +kernel) (by decide +kernel) rfl
theorem dL_law_2078 : decode cL_law 2078 = .ok (.istore 6, 2) := dc_istore (by decide +kernel) (a := 6) (by decide +kernel) rfl
theorem dL_law_2080 : decode cL_law 2080 = .ok (.aload_n 2, 1) := dc_aload_n_2 (by decide +kernel)
theorem dL_law_2081 : decode cL_law 2081 = .ok (.invokevirtual 183, 3) := dc_invokevirtual (by decide +kernel) (a := 0) (b := 183) (by decide +kernel) (by decide +kernel) rfl
theorem dL_law_2084 : decode cL_law 2084 = .ok (.iload 5, 2) := dc_iload (by decide +kernel) (a := 5) (by decide +kernel) rfl
theorem dL_law_2086 : decode cL_law 2086 = .ok (.if_icmp .eq 5, 3) := dc_if_icmp_eq (by decide +kernel) (a := 0) (b := 5) (by decide +kernel) (by decide +kernel) (by decide)
theorem dL_law_2089 : decode cL_law 2089 = .ok (.iconst 0, 1) := dc_iconst_0 (by decide +kernel)
theorem dL_law_2090 : decode cL_law 2090 = .ok (.ireturn, 1) := dc_ireturn (by decide +kernel)
theorem dL_law_2091 : decode cL_law 2091 = .ok (.iload 5, 2) := dc_iload (by decide +kernel) (a := 5) (by decide +kernel) rfl
theorem dL_law_2093 : decode cL_law 2093 = .ok (.ifCond .ne 15, 3) := dc_ifCond_ne (by decide +kernel) (a := 0) (b := 15) (by decide +kernel) (by decide +kernel) (by decide)
theorem dL_law_2096 : decode cL_law 2096 = .ok (.aload_n 3, 1) := dc_aload_n_3 (by decide +kernel)
theorem dL_law_2097 : decode cL_law 2097 = .ok (.iconst 0, 1) := dc_iconst_0 (by decide +kernel)
theorem dL_law_2098 : decode cL_law 2098 = .ok (.laload, 1) := dc_laload (by decide +kernel)
theorem dL_law_2099 : decode cL_law 2099 = .ok (.iload 6, 2) := dc_iload (by decide +kernel) (a := 6) (by decide +kernel) rfl
theorem dL_law_2101 : decode cL_law 2101 = .ok (.i2l, 1) := dc_i2l (by decide +kernel)
theorem dL_law_2102 : decode cL_law 2102 = .ok (.lcmp, 1) := dc_lcmp (by decide +kernel)
theorem dL_law_2103 : decode cL_law 2103 = .ok (.ifCond .eq 5, 3) := dc_ifCond_eq (by decide +kernel) (a := 0) (b := 5) (by decide +kernel) (by decide +kernel) (by decide)
theorem dL_law_2106 : decode cL_law 2106 = .ok (.iconst 0, 1) := dc_iconst_0 (by decide +kernel)
theorem dL_law_2107 : decode cL_law 2107 = .ok (.ireturn, 1) := dc_ireturn (by decide +kernel)
theorem dL_law_2108 : decode cL_law 2108 = .ok (.goto 2443, 3) := dc_goto (by decide +kernel) (a := 9) (b := 139) (by decide +kernel) (by decide +kernel) (by decide)
theorem dL_law_2111 : decode cL_law 2111 = .ok (.aload_n 1, 1) := dc_aload_n_1 (by decide +kernel)
theorem dL_law_2112 : decode cL_law 2112 = .ok (.aload_n 0, 1) := dc_aload_n_0 (by decide +kernel)
theorem dL_law_2113 : decode cL_law 2113 = .ok (.iload 4, 2) := dc_iload (by decide +kernel) (a := 4) (by decide +kernel) rfl
theorem dL_law_2115 : decode cL_law 2115 = .ok (.iconst 1, 1) := dc_iconst_1 (by decide +kernel)
theorem dL_law_2116 : decode cL_law 2116 = .ok (.iadd, 1) := dc_iadd (by decide +kernel)
theorem dL_law_2117 : decode cL_law 2117 = .ok (.iaload, 1) := dc_iaload (by decide +kernel)
theorem dL_law_2118 : decode cL_law 2118 = .ok (.i2l, 1) := dc_i2l (by decide +kernel)
theorem dL_law_2119 : decode cL_law 2119 = .ok (.bipush 32, 2) := dc_bipush (by decide +kernel) (a := 32) (by decide +kernel) (by decide)
theorem dL_law_2121 : decode cL_law 2121 = .ok (.lshl, 1) := dc_lshl (by decide +kernel)
theorem dL_law_2122 : decode cL_law 2122 = .ok (.aload_n 0, 1) := dc_aload_n_0 (by decide +kernel)
theorem dL_law_2123 : decode cL_law 2123 = .ok (.iload 4, 2) := dc_iload (by decide +kernel) (a := 4) (by decide +kernel) rfl
theorem dL_law_2125 : decode cL_law 2125 = .ok (.iconst 2, 1) := dc_iconst_2 (by decide +kernel)
theorem dL_law_2126 : decode cL_law 2126 = .ok (.iadd, 1) := dc_iadd (by decide +kernel)
theorem dL_law_2127 : decode cL_law 2127 = .ok (.iaload, 1) := dc_iaload (by decide +kernel)
theorem dL_law_2128 : decode cL_law 2128 = .ok (.i2l, 1) := dc_i2l (by decide +kernel)
theorem dL_law_2129 : decode cL_law 2129 = .ok (.ldc2_w 261, 3) := dc_ldc2_w (by decide +kernel) (a := 1) (b := 5) (by decide +kernel) (by decide +kernel) rfl
theorem dL_law_2132 : decode cL_law 2132 = .ok (.land, 1) := dc_land (by decide +kernel)
theorem dL_law_2133 : decode cL_law 2133 = .ok (.lor, 1) := dc_lor (by decide +kernel)
theorem dL_law_2134 : decode cL_law 2134 = .ok (.aload_n 0, 1) := dc_aload_n_0 (by decide +kernel)
theorem dL_law_2135 : decode cL_law 2135 = .ok (.iload 4, 2) := dc_iload (by decide +kernel) (a := 4) (by decide +kernel) rfl
theorem dL_law_2137 : decode cL_law 2137 = .ok (.iconst 3, 1) := dc_iconst_3 (by decide +kernel)
theorem dL_law_2138 : decode cL_law 2138 = .ok (.iadd, 1) := dc_iadd (by decide +kernel)
theorem dL_law_2139 : decode cL_law 2139 = .ok (.iaload, 1) := dc_iaload (by decide +kernel)
theorem dL_law_2140 : decode cL_law 2140 = .ok (.ifCond .eq 7, 3) := dc_ifCond_eq (by decide +kernel) (a := 0) (b := 7) (by decide +kernel) (by decide +kernel) (by decide)
theorem dL_law_2143 : decode cL_law 2143 = .ok (.iconst 1, 1) := dc_iconst_1 (by decide +kernel)
theorem dL_law_2144 : decode cL_law 2144 = .ok (.goto 4, 3) := dc_goto (by decide +kernel) (a := 0) (b := 4) (by decide +kernel) (by decide +kernel) (by decide)
theorem dL_law_2147 : decode cL_law 2147 = .ok (.iconst 0, 1) := dc_iconst_0 (by decide +kernel)
theorem dL_law_2148 : decode cL_law 2148 = .ok (.aload_n 0, 1) := dc_aload_n_0 (by decide +kernel)
theorem dL_law_2149 : decode cL_law 2149 = .ok (.iload 4, 2) := dc_iload (by decide +kernel) (a := 4) (by decide +kernel) rfl
theorem dL_law_2151 : decode cL_law 2151 = .ok (.iconst 4, 1) := dc_iconst_4 (by decide +kernel)
theorem dL_law_2152 : decode cL_law 2152 = .ok (.iadd, 1) := dc_iadd (by decide +kernel)
theorem dL_law_2153 : decode cL_law 2153 = .ok (.iaload, 1) := dc_iaload (by decide +kernel)
theorem dL_law_2154 : decode cL_law 2154 = .ok (.aload_n 3, 1) := dc_aload_n_3 (by decide +kernel)
theorem dL_law_2155 : decode cL_law 2155 = .ok (.invokestatic 267, 3) := dc_invokestatic (by decide +kernel) (a := 1) (b := 11) (by decide +kernel) (by decide +kernel) rfl
theorem dL_law_2158 : decode cL_law 2158 = .ok (.istore 5, 2) := dc_istore (by decide +kernel) (a := 5) (by decide +kernel) rfl
theorem dL_law_2160 : decode cL_law 2160 = .ok (.aload_n 2, 1) := dc_aload_n_2 (by decide +kernel)
theorem dL_law_2161 : decode cL_law 2161 = .ok (.aload_n 0, 1) := dc_aload_n_0 (by decide +kernel)
theorem dL_law_2162 : decode cL_law 2162 = .ok (.iload 4, 2) := dc_iload (by decide +kernel) (a := 4) (by decide +kernel) rfl
theorem dL_law_2164 : decode cL_law 2164 = .ok (.iconst 1, 1) := dc_iconst_1 (by decide +kernel)
theorem dL_law_2165 : decode cL_law 2165 = .ok (.iadd, 1) := dc_iadd (by decide +kernel)
theorem dL_law_2166 : decode cL_law 2166 = .ok (.iaload, 1) := dc_iaload (by decide +kernel)
theorem dL_law_2167 : decode cL_law 2167 = .ok (.i2l, 1) := dc_i2l (by decide +kernel)
theorem dL_law_2168 : decode cL_law 2168 = .ok (.bipush 32, 2) := dc_bipush (by decide +kernel) (a := 32) (by decide +kernel) (by decide)
theorem dL_law_2170 : decode cL_law 2170 = .ok (.lshl, 1) := dc_lshl (by decide +kernel)
theorem dL_law_2171 : decode cL_law 2171 = .ok (.aload_n 0, 1) := dc_aload_n_0 (by decide +kernel)
theorem dL_law_2172 : decode cL_law 2172 = .ok (.iload 4, 2) := dc_iload (by decide +kernel) (a := 4) (by decide +kernel) rfl
theorem dL_law_2174 : decode cL_law 2174 = .ok (.iconst 2, 1) := dc_iconst_2 (by decide +kernel)
theorem dL_law_2175 : decode cL_law 2175 = .ok (.iadd, 1) := dc_iadd (by decide +kernel)
theorem dL_law_2176 : decode cL_law 2176 = .ok (.iaload, 1) := dc_iaload (by decide +kernel)
theorem dL_law_2177 : decode cL_law 2177 = .ok (.i2l, 1) := dc_i2l (by decide +kernel)
theorem dL_law_2178 : decode cL_law 2178 = .ok (.ldc2_w 261, 3) := dc_ldc2_w (by decide +kernel) (a := 1) (b := 5) (by decide +kernel) (by decide +kernel) rfl
theorem dL_law_2181 : decode cL_law 2181 = .ok (.land, 1) := dc_land (by decide +kernel)
theorem dL_law_2182 : decode cL_law 2182 = .ok (.lor, 1) := dc_lor (by decide +kernel)
theorem dL_law_2183 : decode cL_law 2183 = .ok (.aload_n 0, 1) := dc_aload_n_0 (by decide +kernel)
theorem dL_law_2184 : decode cL_law 2184 = .ok (.iload 4, 2) := dc_iload (by decide +kernel) (a := 4) (by decide +kernel) rfl
theorem dL_law_2186 : decode cL_law 2186 = .ok (.iconst 3, 1) := dc_iconst_3 (by decide +kernel)
theorem dL_law_2187 : decode cL_law 2187 = .ok (.iadd, 1) := dc_iadd (by decide +kernel)
theorem dL_law_2188 : decode cL_law 2188 = .ok (.iaload, 1) := dc_iaload (by decide +kernel)
theorem dL_law_2189 : decode cL_law 2189 = .ok (.ifCond .eq 7, 3) := dc_ifCond_eq (by decide +kernel) (a := 0) (b := 7) (by decide +kernel) (by decide +kernel) (by decide)
theorem dL_law_2192 : decode cL_law 2192 = .ok (.iconst 1, 1) := dc_iconst_1 (by decide +kernel)
theorem dL_law_2193 : decode cL_law 2193 = .ok (.goto 4, 3) := dc_goto (by decide +kernel) (a := 0) (b := 4) (by decide +kernel) (by decide +kernel) (by decide)
theorem dL_law_2196 : decode cL_law 2196 = .ok (.iconst 0, 1) := dc_iconst_0 (by decide +kernel)
theorem dL_law_2197 : decode cL_law 2197 = .ok (.aload_n 0, 1) := dc_aload_n_0 (by decide +kernel)
theorem dL_law_2198 : decode cL_law 2198 = .ok (.iload 4, 2) := dc_iload (by decide +kernel) (a := 4) (by decide +kernel) rfl
theorem dL_law_2200 : decode cL_law 2200 = .ok (.iconst 4, 1) := dc_iconst_4 (by decide +kernel)
theorem dL_law_2201 : decode cL_law 2201 = .ok (.iadd, 1) := dc_iadd (by decide +kernel)
theorem dL_law_2202 : decode cL_law 2202 = .ok (.iaload, 1) := dc_iaload (by decide +kernel)
theorem dL_law_2203 : decode cL_law 2203 = .ok (.invokevirtual 270, 3) := dc_invokevirtual (by decide +kernel) (a := 1) (b := 14) (by decide +kernel) (by decide +kernel) rfl
theorem dL_law_2206 : decode cL_law 2206 = .ok (.istore 6, 2) := dc_istore (by decide +kernel) (a := 6) (by decide +kernel) rfl
theorem dL_law_2208 : decode cL_law 2208 = .ok (.aload_n 2, 1) := dc_aload_n_2 (by decide +kernel)
theorem dL_law_2209 : decode cL_law 2209 = .ok (.invokevirtual 183, 3) := dc_invokevirtual (by decide +kernel) (a := 0) (b := 183) (by decide +kernel) (by decide +kernel) rfl
theorem dL_law_2212 : decode cL_law 2212 = .ok (.iload 5, 2) := dc_iload (by decide +kernel) (a := 5) (by decide +kernel) rfl
theorem dL_law_2214 : decode cL_law 2214 = .ok (.if_icmp .eq 5, 3) := dc_if_icmp_eq (by decide +kernel) (a := 0) (b := 5) (by decide +kernel) (by decide +kernel) (by decide)
theorem dL_law_2217 : decode cL_law 2217 = .ok (.iconst 0, 1) := dc_iconst_0 (by decide +kernel)
theorem dL_law_2218 : decode cL_law 2218 = .ok (.ireturn, 1) := dc_ireturn (by decide +kernel)
theorem dL_law_2219 : decode cL_law 2219 = .ok (.iload 5, 2) := dc_iload (by decide +kernel) (a := 5) (by decide +kernel) rfl
theorem dL_law_2221 : decode cL_law 2221 = .ok (.ifCond .ne 15, 3) := dc_ifCond_ne (by decide +kernel) (a := 0) (b := 15) (by decide +kernel) (by decide +kernel) (by decide)
theorem dL_law_2224 : decode cL_law 2224 = .ok (.aload_n 3, 1) := dc_aload_n_3 (by decide +kernel)
theorem dL_law_2225 : decode cL_law 2225 = .ok (.iconst 0, 1) := dc_iconst_0 (by decide +kernel)
theorem dL_law_2226 : decode cL_law 2226 = .ok (.laload, 1) := dc_laload (by decide +kernel)
theorem dL_law_2227 : decode cL_law 2227 = .ok (.iload 6, 2) := dc_iload (by decide +kernel) (a := 6) (by decide +kernel) rfl
theorem dL_law_2229 : decode cL_law 2229 = .ok (.i2l, 1) := dc_i2l (by decide +kernel)
theorem dL_law_2230 : decode cL_law 2230 = .ok (.lcmp, 1) := dc_lcmp (by decide +kernel)
theorem dL_law_2231 : decode cL_law 2231 = .ok (.ifCond .eq 5, 3) := dc_ifCond_eq (by decide +kernel) (a := 0) (b := 5) (by decide +kernel) (by decide +kernel) (by decide)
theorem dL_law_2234 : decode cL_law 2234 = .ok (.iconst 0, 1) := dc_iconst_0 (by decide +kernel)
theorem dL_law_2235 : decode cL_law 2235 = .ok (.ireturn, 1) := dc_ireturn (by decide +kernel)
theorem dL_law_2236 : decode cL_law 2236 = .ok (.goto 2315, 3) := dc_goto (by decide +kernel) (a := 9) (b := 11) (by decide +kernel) (by decide +kernel) (by decide)
theorem dL_law_2239 : decode cL_law 2239 = .ok (.aload_n 1, 1) := dc_aload_n_1 (by decide +kernel)
theorem dL_law_2240 : decode cL_law 2240 = .ok (.aload_n 0, 1) := dc_aload_n_0 (by decide +kernel)
theorem dL_law_2241 : decode cL_law 2241 = .ok (.iload 4, 2) := dc_iload (by decide +kernel) (a := 4) (by decide +kernel) rfl
theorem dL_law_2243 : decode cL_law 2243 = .ok (.iconst 1, 1) := dc_iconst_1 (by decide +kernel)
theorem dL_law_2244 : decode cL_law 2244 = .ok (.iadd, 1) := dc_iadd (by decide +kernel)
theorem dL_law_2245 : decode cL_law 2245 = .ok (.iaload, 1) := dc_iaload (by decide +kernel)
theorem dL_law_2246 : decode cL_law 2246 = .ok (.i2l, 1) := dc_i2l (by decide +kernel)
theorem dL_law_2247 : decode cL_law 2247 = .ok (.bipush 32, 2) := dc_bipush (by decide +kernel) (a := 32) (by decide +kernel) (by decide)
theorem dL_law_2249 : decode cL_law 2249 = .ok (.lshl, 1) := dc_lshl (by decide +kernel)
theorem dL_law_2250 : decode cL_law 2250 = .ok (.aload_n 0, 1) := dc_aload_n_0 (by decide +kernel)
theorem dL_law_2251 : decode cL_law 2251 = .ok (.iload 4, 2) := dc_iload (by decide +kernel) (a := 4) (by decide +kernel) rfl
theorem dL_law_2253 : decode cL_law 2253 = .ok (.iconst 2, 1) := dc_iconst_2 (by decide +kernel)
theorem dL_law_2254 : decode cL_law 2254 = .ok (.iadd, 1) := dc_iadd (by decide +kernel)
theorem dL_law_2255 : decode cL_law 2255 = .ok (.iaload, 1) := dc_iaload (by decide +kernel)
theorem dL_law_2256 : decode cL_law 2256 = .ok (.i2l, 1) := dc_i2l (by decide +kernel)
theorem dL_law_2257 : decode cL_law 2257 = .ok (.ldc2_w 261, 3) := dc_ldc2_w (by decide +kernel) (a := 1) (b := 5) (by decide +kernel) (by decide +kernel) rfl
theorem dL_law_2260 : decode cL_law 2260 = .ok (.land, 1) := dc_land (by decide +kernel)
theorem dL_law_2261 : decode cL_law 2261 = .ok (.lor, 1) := dc_lor (by decide +kernel)
theorem dL_law_2262 : decode cL_law 2262 = .ok (.aload_n 0, 1) := dc_aload_n_0 (by decide +kernel)
theorem dL_law_2263 : decode cL_law 2263 = .ok (.iload 4, 2) := dc_iload (by decide +kernel) (a := 4) (by decide +kernel) rfl
theorem dL_law_2265 : decode cL_law 2265 = .ok (.iconst 3, 1) := dc_iconst_3 (by decide +kernel)
theorem dL_law_2266 : decode cL_law 2266 = .ok (.iadd, 1) := dc_iadd (by decide +kernel)
theorem dL_law_2267 : decode cL_law 2267 = .ok (.iaload, 1) := dc_iaload (by decide +kernel)
theorem dL_law_2268 : decode cL_law 2268 = .ok (.ifCond .eq 7, 3) := dc_ifCond_eq (by decide +kernel) (a := 0) (b := 7) (by decide +kernel) (by decide +kernel) (by decide)
theorem dL_law_2271 : decode cL_law 2271 = .ok (.iconst 1, 1) := dc_iconst_1 (by decide +kernel)
theorem dL_law_2272 : decode cL_law 2272 = .ok (.goto 4, 3) := dc_goto (by decide +kernel) (a := 0) (b := 4) (by decide +kernel) (by decide +kernel) (by decide)
theorem dL_law_2275 : decode cL_law 2275 = .ok (.iconst 0, 1) := dc_iconst_0 (by decide +kernel)
theorem dL_law_2276 : decode cL_law 2276 = .ok (.aload_n 0, 1) := dc_aload_n_0 (by decide +kernel)
theorem dL_law_2277 : decode cL_law 2277 = .ok (.iload 4, 2) := dc_iload (by decide +kernel) (a := 4) (by decide +kernel) rfl
theorem dL_law_2279 : decode cL_law 2279 = .ok (.iconst 4, 1) := dc_iconst_4 (by decide +kernel)
theorem dL_law_2280 : decode cL_law 2280 = .ok (.iadd, 1) := dc_iadd (by decide +kernel)
theorem dL_law_2281 : decode cL_law 2281 = .ok (.iaload, 1) := dc_iaload (by decide +kernel)
theorem dL_law_2282 : decode cL_law 2282 = .ok (.aload_n 3, 1) := dc_aload_n_3 (by decide +kernel)
theorem dL_law_2283 : decode cL_law 2283 = .ok (.invokestatic 271, 3) := dc_invokestatic (by decide +kernel) (a := 1) (b := 15) (by decide +kernel) (by decide +kernel) rfl
theorem dL_law_2286 : decode cL_law 2286 = .ok (.istore 5, 2) := dc_istore (by decide +kernel) (a := 5) (by decide +kernel) rfl
theorem dL_law_2288 : decode cL_law 2288 = .ok (.aload_n 2, 1) := dc_aload_n_2 (by decide +kernel)
theorem dL_law_2289 : decode cL_law 2289 = .ok (.aload_n 0, 1) := dc_aload_n_0 (by decide +kernel)
theorem dL_law_2290 : decode cL_law 2290 = .ok (.iload 4, 2) := dc_iload (by decide +kernel) (a := 4) (by decide +kernel) rfl
theorem dL_law_2292 : decode cL_law 2292 = .ok (.iconst 1, 1) := dc_iconst_1 (by decide +kernel)
theorem dL_law_2293 : decode cL_law 2293 = .ok (.iadd, 1) := dc_iadd (by decide +kernel)
theorem dL_law_2294 : decode cL_law 2294 = .ok (.iaload, 1) := dc_iaload (by decide +kernel)
theorem dL_law_2295 : decode cL_law 2295 = .ok (.i2l, 1) := dc_i2l (by decide +kernel)
theorem dL_law_2296 : decode cL_law 2296 = .ok (.bipush 32, 2) := dc_bipush (by decide +kernel) (a := 32) (by decide +kernel) (by decide)
theorem dL_law_2298 : decode cL_law 2298 = .ok (.lshl, 1) := dc_lshl (by decide +kernel)
theorem dL_law_2299 : decode cL_law 2299 = .ok (.aload_n 0, 1) := dc_aload_n_0 (by decide +kernel)
theorem dL_law_2300 : decode cL_law 2300 = .ok (.iload 4, 2) := dc_iload (by decide +kernel) (a := 4) (by decide +kernel) rfl
theorem dL_law_2302 : decode cL_law 2302 = .ok (.iconst 2, 1) := dc_iconst_2 (by decide +kernel)
theorem dL_law_2303 : decode cL_law 2303 = .ok (.iadd, 1) := dc_iadd (by decide +kernel)
theorem dL_law_2304 : decode cL_law 2304 = .ok (.iaload, 1) := dc_iaload (by decide +kernel)
theorem dL_law_2305 : decode cL_law 2305 = .ok (.i2l, 1) := dc_i2l (by decide +kernel)
theorem dL_law_2306 : decode cL_law 2306 = .ok (.ldc2_w 261, 3) := dc_ldc2_w (by decide +kernel) (a := 1) (b := 5) (by decide +kernel) (by decide +kernel) rfl
theorem dL_law_2309 : decode cL_law 2309 = .ok (.land, 1) := dc_land (by decide +kernel)
theorem dL_law_2310 : decode cL_law 2310 = .ok (.lor, 1) := dc_lor (by decide +kernel)
theorem dL_law_2311 : decode cL_law 2311 = .ok (.aload_n 0, 1) := dc_aload_n_0 (by decide +kernel)
theorem dL_law_2312 : decode cL_law 2312 = .ok (.iload 4, 2) := dc_iload (by decide +kernel) (a := 4) (by decide +kernel) rfl
theorem dL_law_2314 : decode cL_law 2314 = .ok (.iconst 3, 1) := dc_iconst_3 (by decide +kernel)
theorem dL_law_2315 : decode cL_law 2315 = .ok (.iadd, 1) := dc_iadd (by decide +kernel)
theorem dL_law_2316 : decode cL_law 2316 = .ok (.iaload, 1) := dc_iaload (by decide +kernel)
theorem dL_law_2317 : decode cL_law 2317 = .ok (.ifCond .eq 7, 3) := dc_ifCond_eq (by decide +kernel) (a := 0) (b := 7) (by decide +kernel) (by decide +kernel) (by decide)
theorem dL_law_2320 : decode cL_law 2320 = .ok (.iconst 1, 1) := dc_iconst_1 (by decide +kernel)
theorem dL_law_2321 : decode cL_law 2321 = .ok (.goto 4, 3) := dc_goto (by decide +kernel) (a := 0) (b := 4) (by decide +kernel) (by decide +kernel) (by decide)
theorem dL_law_2324 : decode cL_law 2324 = .ok (.iconst 0, 1) := dc_iconst_0 (by decide +kernel)
theorem dL_law_2325 : decode cL_law 2325 = .ok (.aload_n 0, 1) := dc_aload_n_0 (by decide +kernel)
theorem dL_law_2326 : decode cL_law 2326 = .ok (.iload 4, 2) := dc_iload (by decide +kernel) (a := 4) (by decide +kernel) rfl
theorem dL_law_2328 : decode cL_law 2328 = .ok (.iconst 4, 1) := dc_iconst_4 (by decide +kernel)
theorem dL_law_2329 : decode cL_law 2329 = .ok (.iadd, 1) := dc_iadd (by decide +kernel)
theorem dL_law_2330 : decode cL_law 2330 = .ok (.iaload, 1) := dc_iaload (by decide +kernel)
theorem dL_law_2331 : decode cL_law 2331 = .ok (.invokevirtual 273, 3) := dc_invokevirtual (by decide +kernel) (a := 1) (b := 17) (by decide +kernel) (by decide +kernel) rfl
theorem dL_law_2334 : decode cL_law 2334 = .ok (.istore 6, 2) := dc_istore (by decide +kernel) (a := 6) (by decide +kernel) rfl
theorem dL_law_2336 : decode cL_law 2336 = .ok (.aload_n 2, 1) := dc_aload_n_2 (by decide +kernel)
theorem dL_law_2337 : decode cL_law 2337 = .ok (.invokevirtual 183, 3) := dc_invokevirtual (by decide +kernel) (a := 0) (b := 183) (by decide +kernel) (by decide +kernel) rfl
theorem dL_law_2340 : decode cL_law 2340 = .ok (.iload 5, 2) := dc_iload (by decide +kernel) (a := 5) (by decide +kernel) rfl
theorem dL_law_2342 : decode cL_law 2342 = .ok (.if_icmp .eq 5, 3) := dc_if_icmp_eq (by decide +kernel) (a := 0) (b := 5) (by decide +kernel) (by decide +kernel) (by decide)
theorem dL_law_2345 : decode cL_law 2345 = .ok (.iconst 0, 1) := dc_iconst_0 (by decide +kernel)
theorem dL_law_2346 : decode cL_law 2346 = .ok (.ireturn, 1) := dc_ireturn (by decide +kernel)
theorem dL_law_2347 : decode cL_law 2347 = .ok (.iload 5, 2) := dc_iload (by decide +kernel) (a := 5) (by decide +kernel) rfl
theorem dL_law_2349 : decode cL_law 2349 = .ok (.ifCond .ne 15, 3) := dc_ifCond_ne (by decide +kernel) (a := 0) (b := 15) (by decide +kernel) (by decide +kernel) (by decide)
theorem dL_law_2352 : decode cL_law 2352 = .ok (.aload_n 3, 1) := dc_aload_n_3 (by decide +kernel)
theorem dL_law_2353 : decode cL_law 2353 = .ok (.iconst 0, 1) := dc_iconst_0 (by decide +kernel)
theorem dL_law_2354 : decode cL_law 2354 = .ok (.laload, 1) := dc_laload (by decide +kernel)
theorem dL_law_2355 : decode cL_law 2355 = .ok (.iload 6, 2) := dc_iload (by decide +kernel) (a := 6) (by decide +kernel) rfl
theorem dL_law_2357 : decode cL_law 2357 = .ok (.i2l, 1) := dc_i2l (by decide +kernel)
theorem dL_law_2358 : decode cL_law 2358 = .ok (.lcmp, 1) := dc_lcmp (by decide +kernel)
theorem dL_law_2359 : decode cL_law 2359 = .ok (.ifCond .eq 5, 3) := dc_ifCond_eq (by decide +kernel) (a := 0) (b := 5) (by decide +kernel) (by decide +kernel) (by decide)
theorem dL_law_2362 : decode cL_law 2362 = .ok (.iconst 0, 1) := dc_iconst_0 (by decide +kernel)
theorem dL_law_2363 : decode cL_law 2363 = .ok (.ireturn, 1) := dc_ireturn (by decide +kernel)
theorem dL_law_2364 : decode cL_law 2364 = .ok (.goto 2187, 3) := dc_goto (by decide +kernel) (a := 8) (b := 139) (by decide +kernel) (by decide +kernel) (by decide)
theorem dL_law_2367 : decode cL_law 2367 = .ok (.aload_n 1, 1) := dc_aload_n_1 (by decide +kernel)
theorem dL_law_2368 : decode cL_law 2368 = .ok (.aload_n 0, 1) := dc_aload_n_0 (by decide +kernel)
theorem dL_law_2369 : decode cL_law 2369 = .ok (.iload 4, 2) := dc_iload (by decide +kernel) (a := 4) (by decide +kernel) rfl
theorem dL_law_2371 : decode cL_law 2371 = .ok (.iconst 1, 1) := dc_iconst_1 (by decide +kernel)
theorem dL_law_2372 : decode cL_law 2372 = .ok (.iadd, 1) := dc_iadd (by decide +kernel)
theorem dL_law_2373 : decode cL_law 2373 = .ok (.iaload, 1) := dc_iaload (by decide +kernel)
theorem dL_law_2374 : decode cL_law 2374 = .ok (.i2l, 1) := dc_i2l (by decide +kernel)
theorem dL_law_2375 : decode cL_law 2375 = .ok (.bipush 32, 2) := dc_bipush (by decide +kernel) (a := 32) (by decide +kernel) (by decide)
theorem dL_law_2377 : decode cL_law 2377 = .ok (.lshl, 1) := dc_lshl (by decide +kernel)
theorem dL_law_2378 : decode cL_law 2378 = .ok (.aload_n 0, 1) := dc_aload_n_0 (by decide +kernel)
theorem dL_law_2379 : decode cL_law 2379 = .ok (.iload 4, 2) := dc_iload (by decide +kernel) (a := 4) (by decide +kernel) rfl
theorem dL_law_2381 : decode cL_law 2381 = .ok (.iconst 2, 1) := dc_iconst_2 (by decide +kernel)
theorem dL_law_2382 : decode cL_law 2382 = .ok (.iadd, 1) := dc_iadd (by decide +kernel)
theorem dL_law_2383 : decode cL_law 2383 = .ok (.iaload, 1) := dc_iaload (by decide +kernel)
theorem dL_law_2384 : decode cL_law 2384 = .ok (.i2l, 1) := dc_i2l (by decide +kernel)
theorem dL_law_2385 : decode cL_law 2385 = .ok (.ldc2_w 261, 3) := dc_ldc2_w (by decide +kernel) (a := 1) (b := 5) (by decide +kernel) (by decide +kernel) rfl
theorem dL_law_2388 : decode cL_law 2388 = .ok (.land, 1) := dc_land (by decide +kernel)
theorem dL_law_2389 : decode cL_law 2389 = .ok (.lor, 1) := dc_lor (by decide +kernel)
theorem dL_law_2390 : decode cL_law 2390 = .ok (.aload_n 0, 1) := dc_aload_n_0 (by decide +kernel)
theorem dL_law_2391 : decode cL_law 2391 = .ok (.iload 4, 2) := dc_iload (by decide +kernel) (a := 4) (by decide +kernel) rfl
theorem dL_law_2393 : decode cL_law 2393 = .ok (.iconst 3, 1) := dc_iconst_3 (by decide +kernel)
theorem dL_law_2394 : decode cL_law 2394 = .ok (.iadd, 1) := dc_iadd (by decide +kernel)
theorem dL_law_2395 : decode cL_law 2395 = .ok (.iaload, 1) := dc_iaload (by decide +kernel)
theorem dL_law_2396 : decode cL_law 2396 = .ok (.ifCond .eq 7, 3) := dc_ifCond_eq (by decide +kernel) (a := 0) (b := 7) (by decide +kernel) (by decide +kernel) (by decide)
theorem dL_law_2399 : decode cL_law 2399 = .ok (.iconst 1, 1) := dc_iconst_1 (by decide +kernel)
theorem dL_law_2400 : decode cL_law 2400 = .ok (.goto 4, 3) := dc_goto (by decide +kernel) (a := 0) (b := 4) (by decide +kernel) (by decide +kernel) (by decide)
theorem dL_law_2403 : decode cL_law 2403 = .ok (.iconst 0, 1) := dc_iconst_0 (by decide +kernel)
theorem dL_law_2404 : decode cL_law 2404 = .ok (.aload_n 0, 1) := dc_aload_n_0 (by decide +kernel)
theorem dL_law_2405 : decode cL_law 2405 = .ok (.iload 4, 2) := dc_iload (by decide +kernel) (a := 4) (by decide +kernel) rfl
theorem dL_law_2407 : decode cL_law 2407 = .ok (.iconst 4, 1) := dc_iconst_4 (by decide +kernel)
theorem dL_law_2408 : decode cL_law 2408 = .ok (.iadd, 1) := dc_iadd (by decide +kernel)
theorem dL_law_2409 : decode cL_law 2409 = .ok (.iaload, 1) := dc_iaload (by decide +kernel)
theorem dL_law_2410 : decode cL_law 2410 = .ok (.aload_n 0, 1) := dc_aload_n_0 (by decide +kernel)
theorem dL_law_2411 : decode cL_law 2411 = .ok (.iload 4, 2) := dc_iload (by decide +kernel) (a := 4) (by decide +kernel) rfl
theorem dL_law_2413 : decode cL_law 2413 = .ok (.iconst 5, 1) := dc_iconst_5 (by decide +kernel)
theorem dL_law_2414 : decode cL_law 2414 = .ok (.iadd, 1) := dc_iadd (by decide +kernel)
theorem dL_law_2415 : decode cL_law 2415 = .ok (.iaload, 1) := dc_iaload (by decide +kernel)
theorem dL_law_2416 : decode cL_law 2416 = .ok (.aload_n 0, 1) := dc_aload_n_0 (by decide +kernel)
theorem dL_law_2417 : decode cL_law 2417 = .ok (.iload 4, 2) := dc_iload (by decide +kernel) (a := 4) (by decide +kernel) rfl
theorem dL_law_2419 : decode cL_law 2419 = .ok (.bipush 6, 2) := dc_bipush (by decide +kernel) (a := 6) (by decide +kernel) (by decide)
theorem dL_law_2421 : decode cL_law 2421 = .ok (.iadd, 1) := dc_iadd (by decide +kernel)
theorem dL_law_2422 : decode cL_law 2422 = .ok (.iaload, 1) := dc_iaload (by decide +kernel)
theorem dL_law_2423 : decode cL_law 2423 = .ok (.aload_n 3, 1) := dc_aload_n_3 (by decide +kernel)
theorem dL_law_2424 : decode cL_law 2424 = .ok (.invokestatic 274, 3) := dc_invokestatic (by decide +kernel) (a := 1) (b := 18) (by decide +kernel) (by decide +kernel) rfl
theorem dL_law_2427 : decode cL_law 2427 = .ok (.istore 5, 2) := dc_istore (by decide +kernel) (a := 5) (by decide +kernel) rfl
theorem dL_law_2429 : decode cL_law 2429 = .ok (.aload_n 2, 1) := dc_aload_n_2 (by decide +kernel)
theorem dL_law_2430 : decode cL_law 2430 = .ok (.aload_n 0, 1) := dc_aload_n_0 (by decide +kernel)
theorem dL_law_2431 : decode cL_law 2431 = .ok (.iload 4, 2) := dc_iload (by decide +kernel) (a := 4) (by decide +kernel) rfl
theorem dL_law_2433 : decode cL_law 2433 = .ok (.iconst 1, 1) := dc_iconst_1 (by decide +kernel)
theorem dL_law_2434 : decode cL_law 2434 = .ok (.iadd, 1) := dc_iadd (by decide +kernel)
theorem dL_law_2435 : decode cL_law 2435 = .ok (.iaload, 1) := dc_iaload (by decide +kernel)
theorem dL_law_2436 : decode cL_law 2436 = .ok (.i2l, 1) := dc_i2l (by decide +kernel)
theorem dL_law_2437 : decode cL_law 2437 = .ok (.bipush 32, 2) := dc_bipush (by decide +kernel) (a := 32) (by decide +kernel) (by decide)
theorem dL_law_2439 : decode cL_law 2439 = .ok (.lshl, 1) := dc_lshl (by decide +kernel)
theorem dL_law_2440 : decode cL_law 2440 = .ok (.aload_n 0, 1) := dc_aload_n_0 (by decide +kernel)
theorem dL_law_2441 : decode cL_law 2441 = .ok (.iload 4, 2) := dc_iload (by decide +kernel) (a := 4) (by decide +kernel) rfl
theorem dL_law_2443 : decode cL_law 2443 = .ok (.iconst 2, 1) := dc_iconst_2 (by decide +kernel)
theorem dL_law_2444 : decode cL_law 2444 = .ok (.iadd, 1) := dc_iadd (by decide +kernel)
theorem dL_law_2445 : decode cL_law 2445 = .ok (.iaload, 1) := dc_iaload (by decide +kernel)
theorem dL_law_2446 : decode cL_law 2446 = .ok (.i2l, 1) := dc_i2l (by decide +kernel)
theorem dL_law_2447 : decode cL_law 2447 = .ok (.ldc2_w 261, 3) := dc_ldc2_w (by decide +kernel) (a := 1) (b := 5) (by decide +kernel) (by decide +kernel) rfl
theorem dL_law_2450 : decode cL_law 2450 = .ok (.land, 1) := dc_land (by decide +kernel)
theorem dL_law_2451 : decode cL_law 2451 = .ok (.lor, 1) := dc_lor (by decide +kernel)
theorem dL_law_2452 : decode cL_law 2452 = .ok (.aload_n 0, 1) := dc_aload_n_0 (by decide +kernel)
theorem dL_law_2453 : decode cL_law 2453 = .ok (.iload 4, 2) := dc_iload (by decide +kernel) (a := 4) (by decide +kernel) rfl
theorem dL_law_2455 : decode cL_law 2455 = .ok (.iconst 3, 1) := dc_iconst_3 (by decide +kernel)
theorem dL_law_2456 : decode cL_law 2456 = .ok (.iadd, 1) := dc_iadd (by decide +kernel)
theorem dL_law_2457 : decode cL_law 2457 = .ok (.iaload, 1) := dc_iaload (by decide +kernel)
theorem dL_law_2458 : decode cL_law 2458 = .ok (.ifCond .eq 7, 3) := dc_ifCond_eq (by decide +kernel) (a := 0) (b := 7) (by decide +kernel) (by decide +kernel) (by decide)
theorem dL_law_2461 : decode cL_law 2461 = .ok (.iconst 1, 1) := dc_iconst_1 (by decide +kernel)
theorem dL_law_2462 : decode cL_law 2462 = .ok (.goto 4, 3) := dc_goto (by decide +kernel) (a := 0) (b := 4) (by decide +kernel) (by decide +kernel) (by decide)
theorem dL_law_2465 : decode cL_law 2465 = .ok (.iconst 0, 1) := dc_iconst_0 (by decide +kernel)
theorem dL_law_2466 : decode cL_law 2466 = .ok (.aload_n 0, 1) := dc_aload_n_0 (by decide +kernel)
theorem dL_law_2467 : decode cL_law 2467 = .ok (.iload 4, 2) := dc_iload (by decide +kernel) (a := 4) (by decide +kernel) rfl
theorem dL_law_2469 : decode cL_law 2469 = .ok (.iconst 4, 1) := dc_iconst_4 (by decide +kernel)
theorem dL_law_2470 : decode cL_law 2470 = .ok (.iadd, 1) := dc_iadd (by decide +kernel)
theorem dL_law_2471 : decode cL_law 2471 = .ok (.iaload, 1) := dc_iaload (by decide +kernel)
theorem dL_law_2472 : decode cL_law 2472 = .ok (.aload_n 0, 1) := dc_aload_n_0 (by decide +kernel)
theorem dL_law_2473 : decode cL_law 2473 = .ok (.iload 4, 2) := dc_iload (by decide +kernel) (a := 4) (by decide +kernel) rfl
theorem dL_law_2475 : decode cL_law 2475 = .ok (.iconst 5, 1) := dc_iconst_5 (by decide +kernel)
theorem dL_law_2476 : decode cL_law 2476 = .ok (.iadd, 1) := dc_iadd (by decide +kernel)
theorem dL_law_2477 : decode cL_law 2477 = .ok (.iaload, 1) := dc_iaload (by decide +kernel)
theorem dL_law_2478 : decode cL_law 2478 = .ok (.aload_n 0, 1) := dc_aload_n_0 (by decide +kernel)
theorem dL_law_2479 : decode cL_law 2479 = .ok (.iload 4, 2) := dc_iload (by decide +kernel) (a := 4) (by decide +kernel) rfl
theorem dL_law_2481 : decode cL_law 2481 = .ok (.bipush 6, 2) := dc_bipush (by decide +kernel) (a := 6) (by decide +kernel) (by decide)
theorem dL_law_2483 : decode cL_law 2483 = .ok (.iadd, 1) := dc_iadd (by decide +kernel)
theorem dL_law_2484 : decode cL_law 2484 = .ok (.iaload, 1) := dc_iaload (by decide +kernel)
theorem dL_law_2485 : decode cL_law 2485 = .ok (.invokevirtual 277, 3) := dc_invokevirtual (by decide +kernel) (a := 1) (b := 21) (by decide +kernel) (by decide +kernel) rfl
theorem dL_law_2488 : decode cL_law 2488 = .ok (.istore 6, 2) := dc_istore (by decide +kernel) (a := 6) (by decide +kernel) rfl
theorem dL_law_2490 : decode cL_law 2490 = .ok (.aload_n 2, 1) := dc_aload_n_2 (by decide +kernel)
theorem dL_law_2491 : decode cL_law 2491 = .ok (.invokevirtual 183, 3) := dc_invokevirtual (by decide +kernel) (a := 0) (b := 183) (by decide +kernel) (by decide +kernel) rfl
theorem dL_law_2494 : decode cL_law 2494 = .ok (.iload 5, 2) := dc_iload (by decide +kernel) (a := 5) (by decide +kernel) rfl
theorem dL_law_2496 : decode cL_law 2496 = .ok (.if_icmp .eq 5, 3) := dc_if_icmp_eq (by decide +kernel) (a := 0) (b := 5) (by decide +kernel) (by decide +kernel) (by decide)
theorem dL_law_2499 : decode cL_law 2499 = .ok (.iconst 0, 1) := dc_iconst_0 (by decide +kernel)
theorem dL_law_2500 : decode cL_law 2500 = .ok (.ireturn, 1) := dc_ireturn (by decide +kernel)
theorem dL_law_2501 : decode cL_law 2501 = .ok (.iload 5, 2) := dc_iload (by decide +kernel) (a := 5) (by decide +kernel) rfl
theorem dL_law_2503 : decode cL_law 2503 = .ok (.ifCond .ne 15, 3) := dc_ifCond_ne (by decide +kernel) (a := 0) (b := 15) (by decide +kernel) (by decide +kernel) (by decide)
theorem dL_law_2506 : decode cL_law 2506 = .ok (.aload_n 3, 1) := dc_aload_n_3 (by decide +kernel)
theorem dL_law_2507 : decode cL_law 2507 = .ok (.iconst 0, 1) := dc_iconst_0 (by decide +kernel)
theorem dL_law_2508 : decode cL_law 2508 = .ok (.laload, 1) := dc_laload (by decide +kernel)
theorem dL_law_2509 : decode cL_law 2509 = .ok (.iload 6, 2) := dc_iload (by decide +kernel) (a := 6) (by decide +kernel) rfl
theorem dL_law_2511 : decode cL_law 2511 = .ok (.i2l, 1) := dc_i2l (by decide +kernel)
theorem dL_law_2512 : decode cL_law 2512 = .ok (.lcmp, 1) := dc_lcmp (by decide +kernel)
theorem dL_law_2513 : decode cL_law 2513 = .ok (.ifCond .eq 5, 3) := dc_ifCond_eq (by decide +kernel) (a := 0) (b := 5) (by decide +kernel) (by decide +kernel) (by decide)
theorem dL_law_2516 : decode cL_law 2516 = .ok (.iconst 0, 1) := dc_iconst_0 (by decide +kernel)
theorem dL_law_2517 : decode cL_law 2517 = .ok (.ireturn, 1) := dc_ireturn (by decide +kernel)
theorem dL_law_2518 : decode cL_law 2518 = .ok (.goto 2033, 3) := dc_goto (by decide +kernel) (a := 7) (b := 241) (by decide +kernel) (by decide +kernel) (by decide)
theorem dL_law_2521 : decode cL_law 2521 = .ok (.aload_n 1, 1) := dc_aload_n_1 (by decide +kernel)
theorem dL_law_2522 : decode cL_law 2522 = .ok (.aload_n 0, 1) := dc_aload_n_0 (by decide +kernel)
theorem dL_law_2523 : decode cL_law 2523 = .ok (.iload 4, 2) := dc_iload (by decide +kernel) (a := 4) (by decide +kernel) rfl
theorem dL_law_2525 : decode cL_law 2525 = .ok (.iconst 1, 1) := dc_iconst_1 (by decide +kernel)
theorem dL_law_2526 : decode cL_law 2526 = .ok (.iadd, 1) := dc_iadd (by decide +kernel)
theorem dL_law_2527 : decode cL_law 2527 = .ok (.iaload, 1) := dc_iaload (by decide +kernel)
theorem dL_law_2528 : decode cL_law 2528 = .ok (.aload_n 0, 1) := dc_aload_n_0 (by decide +kernel)
theorem dL_law_2529 : decode cL_law 2529 = .ok (.iload 4, 2) := dc_iload (by decide +kernel) (a := 4) (by decide +kernel) rfl
theorem dL_law_2531 : decode cL_law 2531 = .ok (.iconst 2, 1) := dc_iconst_2 (by decide +kernel)
theorem dL_law_2532 : decode cL_law 2532 = .ok (.iadd, 1) := dc_iadd (by decide +kernel)
theorem dL_law_2533 : decode cL_law 2533 = .ok (.iaload, 1) := dc_iaload (by decide +kernel)
theorem dL_law_2534 : decode cL_law 2534 = .ok (.ifCond .eq 7, 3) := dc_ifCond_eq (by decide +kernel) (a := 0) (b := 7) (by decide +kernel) (by decide +kernel) (by decide)
theorem dL_law_2537 : decode cL_law 2537 = .ok (.iconst 1, 1) := dc_iconst_1 (by decide +kernel)
theorem dL_law_2538 : decode cL_law 2538 = .ok (.goto 4, 3) := dc_goto (by decide +kernel) (a := 0) (b := 4) (by decide +kernel) (by decide +kernel) (by decide)
theorem dL_law_2541 : decode cL_law 2541 = .ok (.iconst 0, 1) := dc_iconst_0 (by decide +kernel)
theorem dL_law_2542 : decode cL_law 2542 = .ok (.aload_n 3, 1) := dc_aload_n_3 (by decide +kernel)
theorem dL_law_2543 : decode cL_law 2543 = .ok (.invokestatic 278, 3) := dc_invokestatic (by decide +kernel) (a := 1) (b := 22) (by decide +kernel) (by decide +kernel) rfl
theorem dL_law_2546 : decode cL_law 2546 = .ok (.istore 5, 2) := dc_istore (by decide +kernel) (a := 5) (by decide +kernel) rfl
theorem dL_law_2548 : decode cL_law 2548 = .ok (.aload_n 2, 1) := dc_aload_n_2 (by decide +kernel)
theorem dL_law_2549 : decode cL_law 2549 = .ok (.aload_n 0, 1) := dc_aload_n_0 (by decide +kernel)
theorem dL_law_2550 : decode cL_law 2550 = .ok (.iload 4, 2) := dc_iload (by decide +kernel) (a := 4) (by decide +kernel) rfl
theorem dL_law_2552 : decode cL_law 2552 = .ok (.iconst 1, 1) := dc_iconst_1 (by decide +kernel)
theorem dL_law_2553 : decode cL_law 2553 = .ok (.iadd, 1) := dc_iadd (by decide +kernel)
theorem dL_law_2554 : decode cL_law 2554 = .ok (.iaload, 1) := dc_iaload (by decide +kernel)
theorem dL_law_2555 : decode cL_law 2555 = .ok (.aload_n 0, 1) := dc_aload_n_0 (by decide +kernel)
theorem dL_law_2556 : decode cL_law 2556 = .ok (.iload 4, 2) := dc_iload (by decide +kernel) (a := 4) (by decide +kernel) rfl
theorem dL_law_2558 : decode cL_law 2558 = .ok (.iconst 2, 1) := dc_iconst_2 (by decide +kernel)
theorem dL_law_2559 : decode cL_law 2559 = .ok (.iadd, 1) := dc_iadd (by decide +kernel)
theorem dL_law_2560 : decode cL_law 2560 = .ok (.iaload, 1) := dc_iaload (by decide +kernel)
theorem dL_law_2561 : decode cL_law 2561 = .ok (.ifCond .eq 7, 3) := dc_ifCond_eq (by decide +kernel) (a := 0) (b := 7) (by decide +kernel) (by decide +kernel) (by decide)
theorem dL_law_2564 : decode cL_law 2564 = .ok (.iconst 1, 1) := dc_iconst_1 (by decide +kernel)
theorem dL_law_2565 : decode cL_law 2565 = .ok (.goto 4, 3) := dc_goto (by decide +kernel) (a := 0) (b := 4) (by decide +kernel) (by decide +kernel) (by decide)
theorem dL_law_2568 : decode cL_law 2568 = .ok (.iconst 0, 1) := dc_iconst_0 (by decide +kernel)
theorem dL_law_2569 : decode cL_law 2569 = .ok (.invokevirtual 280, 3) := dc_invokevirtual (by decide +kernel) (a := 1) (b := 24) (by decide +kernel) (by decide +kernel) rfl
theorem dL_law_2572 : decode cL_law 2572 = .ok (.istore 6, 2) := dc_istore (by decide +kernel) (a := 6) (by decide +kernel) rfl
theorem dL_law_2574 : decode cL_law 2574 = .ok (.aload_n 2, 1) := dc_aload_n_2 (by decide +kernel)
theorem dL_law_2575 : decode cL_law 2575 = .ok (.invokevirtual 183, 3) := dc_invokevirtual (by decide +kernel) (a := 0) (b := 183) (by decide +kernel) (by decide +kernel) rfl
theorem dL_law_2578 : decode cL_law 2578 = .ok (.iload 5, 2) := dc_iload (by decide +kernel) (a := 5) (by decide +kernel) rfl
theorem dL_law_2580 : decode cL_law 2580 = .ok (.if_icmp .eq 5, 3) := dc_if_icmp_eq (by decide +kernel) (a := 0) (b := 5) (by decide +kernel) (by decide +kernel) (by decide)
theorem dL_law_2583 : decode cL_law 2583 = .ok (.iconst 0, 1) := dc_iconst_0 (by decide +kernel)
theorem dL_law_2584 : decode cL_law 2584 = .ok (.ireturn, 1) := dc_ireturn (by decide +kernel)
theorem dL_law_2585 : decode cL_law 2585 = .ok (.iload 5, 2) := dc_iload (by decide +kernel) (a := 5) (by decide +kernel) rfl
theorem dL_law_2587 : decode cL_law 2587 = .ok (.ifCond .ne 15, 3) := dc_ifCond_ne (by decide +kernel) (a := 0) (b := 15) (by decide +kernel) (by decide +kernel) (by decide)
theorem dL_law_2590 : decode cL_law 2590 = .ok (.aload_n 3, 1) := dc_aload_n_3 (by decide +kernel)
theorem dL_law_2591 : decode cL_law 2591 = .ok (.iconst 0, 1) := dc_iconst_0 (by decide +kernel)
theorem dL_law_2592 : decode cL_law 2592 = .ok (.laload, 1) := dc_laload (by decide +kernel)
theorem dL_law_2593 : decode cL_law 2593 = .ok (.iload 6, 2) := dc_iload (by decide +kernel) (a := 6) (by decide +kernel) rfl
theorem dL_law_2595 : decode cL_law 2595 = .ok (.i2l, 1) := dc_i2l (by decide +kernel)
theorem dL_law_2596 : decode cL_law 2596 = .ok (.lcmp, 1) := dc_lcmp (by decide +kernel)
theorem dL_law_2597 : decode cL_law 2597 = .ok (.ifCond .eq 5, 3) := dc_ifCond_eq (by decide +kernel) (a := 0) (b := 5) (by decide +kernel) (by decide +kernel) (by decide)
theorem dL_law_2600 : decode cL_law 2600 = .ok (.iconst 0, 1) := dc_iconst_0 (by decide +kernel)
theorem dL_law_2601 : decode cL_law 2601 = .ok (.ireturn, 1) := dc_ireturn (by decide +kernel)
theorem dL_law_2602 : decode cL_law 2602 = .ok (.goto 1949, 3) := dc_goto (by decide +kernel) (a := 7) (b := 157) (by decide +kernel) (by decide +kernel) (by decide)
theorem dL_law_2605 : decode cL_law 2605 = .ok (.aload_n 1, 1) := dc_aload_n_1 (by decide +kernel)
theorem dL_law_2606 : decode cL_law 2606 = .ok (.aload_n 0, 1) := dc_aload_n_0 (by decide +kernel)
theorem dL_law_2607 : decode cL_law 2607 = .ok (.iload 4, 2) := dc_iload (by decide +kernel) (a := 4) (by decide +kernel) rfl
theorem dL_law_2609 : decode cL_law 2609 = .ok (.iconst 1, 1) := dc_iconst_1 (by decide +kernel)
theorem dL_law_2610 : decode cL_law 2610 = .ok (.iadd, 1) := dc_iadd (by decide +kernel)
theorem dL_law_2611 : decode cL_law 2611 = .ok (.iaload, 1) := dc_iaload (by decide +kernel)
theorem dL_law_2612 : decode cL_law 2612 = .ok (.ifCond .eq 7, 3) := dc_ifCond_eq (by decide +kernel) (a := 0) (b := 7) (by decide +kernel) (by decide +kernel) (by decide)
theorem dL_law_2615 : decode cL_law 2615 = .ok (.iconst 1, 1) := dc_iconst_1 (by decide +kernel)
theorem dL_law_2616 : decode cL_law 2616 = .ok (.goto 4, 3) := dc_goto (by decide +kernel) (a := 0) (b := 4) (by decide +kernel) (by decide +kernel) (by decide)
theorem dL_law_2619 : decode cL_law 2619 = .ok (.iconst 0, 1) := dc_iconst_0 (by decide +kernel)
theorem dL_law_2620 : decode cL_law 2620 = .ok (.invokevirtual 281, 3) := dc_invokevirtual (by decide +kernel) (a := 1) (b := 25) (by decide +kernel) (by decide +kernel) rfl
theorem dL_law_2623 : decode cL_law 2623 = .ok (.aload_n 2, 1) := dc_aload_n_2 (by decide +kernel)
theorem dL_law_2624 : decode cL_law 2624 = .ok (.aload_n 0, 1) := dc_aload_n_0 (by decide +kernel)
theorem dL_law_2625 : decode cL_law 2625 = .ok (.iload 4, 2) := dc_iload (by decide +kernel) (a := 4) (by decide +kernel) rfl
theorem dL_law_2627 : decode cL_law 2627 = .ok (.iconst 1, 1) := dc_iconst_1 (by decide +kernel)
theorem dL_law_2628 : decode cL_law 2628 = .ok (.iadd, 1) := dc_iadd (by decide +kernel)
theorem dL_law_2629 : decode cL_law 2629 = .ok (.iaload, 1) := dc_iaload (by decide +kernel)
theorem dL_law_2630 : decode cL_law 2630 = .ok (.ifCond .eq 7, 3) := dc_ifCond_eq (by decide +kernel) (a := 0) (b := 7) (by decide +kernel) (by decide +kernel) (by decide)
theorem dL_law_2633 : decode cL_law 2633 = .ok (.iconst 1, 1) := dc_iconst_1 (by decide +kernel)
theorem dL_law_2634 : decode cL_law 2634 = .ok (.goto 4, 3) := dc_goto (by decide +kernel) (a := 0) (b := 4) (by decide +kernel) (by decide +kernel) (by decide)
theorem dL_law_2637 : decode cL_law 2637 = .ok (.iconst 0, 1) := dc_iconst_0 (by decide +kernel)
theorem dL_law_2638 : decode cL_law 2638 = .ok (.invokevirtual 285, 3) := dc_invokevirtual (by decide +kernel) (a := 1) (b := 29) (by decide +kernel) (by decide +kernel) rfl
theorem dL_law_2641 : decode cL_law 2641 = .ok (.if_icmp .eq 1910, 3) := dc_if_icmp_eq (by decide +kernel) (a := 7) (b := 118) (by decide +kernel) (by decide +kernel) (by decide)
theorem dL_law_2644 : decode cL_law 2644 = .ok (.iconst 0, 1) := dc_iconst_0 (by decide +kernel)
theorem dL_law_2645 : decode cL_law 2645 = .ok (.ireturn, 1) := dc_ireturn (by decide +kernel)
theorem dL_law_2646 : decode cL_law 2646 = .ok (.aload_n 1, 1) := dc_aload_n_1 (by decide +kernel)
theorem dL_law_2647 : decode cL_law 2647 = .ok (.aload_n 0, 1) := dc_aload_n_0 (by decide +kernel)
theorem dL_law_2648 : decode cL_law 2648 = .ok (.iload 4, 2) := dc_iload (by decide +kernel) (a := 4) (by decide +kernel) rfl
theorem dL_law_2650 : decode cL_law 2650 = .ok (.iconst 1, 1) := dc_iconst_1 (by decide +kernel)
theorem dL_law_2651 : decode cL_law 2651 = .ok (.iadd, 1) := dc_iadd (by decide +kernel)
theorem dL_law_2652 : decode cL_law 2652 = .ok (.iaload, 1) := dc_iaload (by decide +kernel)
theorem dL_law_2653 : decode cL_law 2653 = .ok (.aload_n 0, 1) := dc_aload_n_0 (by decide +kernel)
theorem dL_law_2654 : decode cL_law 2654 = .ok (.iload 4, 2) := dc_iload (by decide +kernel) (a := 4) (by decide +kernel) rfl
theorem dL_law_2656 : decode cL_law 2656 = .ok (.iconst 2, 1) := dc_iconst_2 (by decide +kernel)
theorem dL_law_2657 : decode cL_law 2657 = .ok (.iadd, 1) := dc_iadd (by decide +kernel)
theorem dL_law_2658 : decode cL_law 2658 = .ok (.iaload, 1) := dc_iaload (by decide +kernel)
theorem dL_law_2659 : decode cL_law 2659 = .ok (.aload_n 3, 1) := dc_aload_n_3 (by decide +kernel)
theorem dL_law_2660 : decode cL_law 2660 = .ok (.invokestatic 286, 3) := dc_invokestatic (by decide +kernel) (a := 1) (b := 30) (by decide +kernel) (by decide +kernel) rfl
theorem dL_law_2663 : decode cL_law 2663 = .ok (.istore 5, 2) := dc_istore (by decide +kernel) (a := 5) (by decide +kernel) rfl
theorem dL_law_2665 : decode cL_law 2665 = .ok (.aload_n 2, 1) := dc_aload_n_2 (by decide +kernel)
theorem dL_law_2666 : decode cL_law 2666 = .ok (.aload_n 0, 1) := dc_aload_n_0 (by decide +kernel)
theorem dL_law_2667 : decode cL_law 2667 = .ok (.iload 4, 2) := dc_iload (by decide +kernel) (a := 4) (by decide +kernel) rfl
theorem dL_law_2669 : decode cL_law 2669 = .ok (.iconst 1, 1) := dc_iconst_1 (by decide +kernel)
theorem dL_law_2670 : decode cL_law 2670 = .ok (.iadd, 1) := dc_iadd (by decide +kernel)
theorem dL_law_2671 : decode cL_law 2671 = .ok (.iaload, 1) := dc_iaload (by decide +kernel)
theorem dL_law_2672 : decode cL_law 2672 = .ok (.aload_n 0, 1) := dc_aload_n_0 (by decide +kernel)
theorem dL_law_2673 : decode cL_law 2673 = .ok (.iload 4, 2) := dc_iload (by decide +kernel) (a := 4) (by decide +kernel) rfl
theorem dL_law_2675 : decode cL_law 2675 = .ok (.iconst 2, 1) := dc_iconst_2 (by decide +kernel)
theorem dL_law_2676 : decode cL_law 2676 = .ok (.iadd, 1) := dc_iadd (by decide +kernel)
theorem dL_law_2677 : decode cL_law 2677 = .ok (.iaload, 1) := dc_iaload (by decide +kernel)
theorem dL_law_2678 : decode cL_law 2678 = .ok (.invokevirtual 288, 3) := dc_invokevirtual (by decide +kernel) (a := 1) (b := 32) (by decide +kernel) (by decide +kernel) rfl
theorem dL_law_2681 : decode cL_law 2681 = .ok (.istore 6, 2) := dc_istore (by decide +kernel) (a := 6) (by decide +kernel) rfl
theorem dL_law_2683 : decode cL_law 2683 = .ok (.aload_n 2, 1) := dc_aload_n_2 (by decide +kernel)
theorem dL_law_2684 : decode cL_law 2684 = .ok (.invokevirtual 183, 3) := dc_invokevirtual (by decide +kernel) (a := 0) (b := 183) (by decide +kernel) (by decide +kernel) rfl
theorem dL_law_2687 : decode cL_law 2687 = .ok (.iload 5, 2) := dc_iload (by decide +kernel) (a := 5) (by decide +kernel) rfl
theorem dL_law_2689 : decode cL_law 2689 = .ok (.if_icmp .eq 5, 3) := dc_if_icmp_eq (by decide +kernel) (a := 0) (b := 5) (by decide +kernel) (by decide +kernel) (by decide)
theorem dL_law_2692 : decode cL_law 2692 = .ok (.iconst 0, 1) := dc_iconst_0 (by decide +kernel)
theorem dL_law_2693 : decode cL_law 2693 = .ok (.ireturn, 1) := dc_ireturn (by decide +kernel)
theorem dL_law_2694 : decode cL_law 2694 = .ok (.iload 5, 2) := dc_iload (by decide +kernel) (a := 5) (by decide +kernel) rfl
theorem dL_law_2696 : decode cL_law 2696 = .ok (.ifCond .ne 15, 3) := dc_ifCond_ne (by decide +kernel) (a := 0) (b := 15) (by decide +kernel) (by decide +kernel) (by decide)
theorem dL_law_2699 : decode cL_law 2699 = .ok (.aload_n 3, 1) := dc_aload_n_3 (by decide +kernel)
theorem dL_law_2700 : decode cL_law 2700 = .ok (.iconst 0, 1) := dc_iconst_0 (by decide +kernel)
theorem dL_law_2701 : decode cL_law 2701 = .ok (.laload, 1) := dc_laload (by decide +kernel)
theorem dL_law_2702 : decode cL_law 2702 = .ok (.iload 6, 2) := dc_iload (by decide +kernel) (a := 6) (by decide +kernel) rfl
theorem dL_law_2704 : decode cL_law 2704 = .ok (.i2l, 1) := dc_i2l (by decide +kernel)
theorem dL_law_2705 : decode cL_law 2705 = .ok (.lcmp, 1) := dc_lcmp (by decide +kernel)
theorem dL_law_2706 : decode cL_law 2706 = .ok (.ifCond .eq 5, 3) := dc_ifCond_eq (by decide +kernel) (a := 0) (b := 5) (by decide +kernel) (by decide +kernel) (by decide)
theorem dL_law_2709 : decode cL_law 2709 = .ok (.iconst 0, 1) := dc_iconst_0 (by decide +kernel)
theorem dL_law_2710 : decode cL_law 2710 = .ok (.ireturn, 1) := dc_ireturn (by decide +kernel)
theorem dL_law_2711 : decode cL_law 2711 = .ok (.goto 1840, 3) := dc_goto (by decide +kernel) (a := 7) (b := 48) (by decide +kernel) (by decide +kernel) (by decide)
theorem dL_law_2714 : decode cL_law 2714 = .ok (.aload_n 1, 1) := dc_aload_n_1 (by decide +kernel)
theorem dL_law_2715 : decode cL_law 2715 = .ok (.aload_n 0, 1) := dc_aload_n_0 (by decide +kernel)
theorem dL_law_2716 : decode cL_law 2716 = .ok (.iload 4, 2) := dc_iload (by decide +kernel) (a := 4) (by decide +kernel) rfl
theorem dL_law_2718 : decode cL_law 2718 = .ok (.iconst 1, 1) := dc_iconst_1 (by decide +kernel)
theorem dL_law_2719 : decode cL_law 2719 = .ok (.iadd, 1) := dc_iadd (by decide +kernel)
theorem dL_law_2720 : decode cL_law 2720 = .ok (.iaload, 1) := dc_iaload (by decide +kernel)
theorem dL_law_2721 : decode cL_law 2721 = .ok (.aload_n 0, 1) := dc_aload_n_0 (by decide +kernel)
theorem dL_law_2722 : decode cL_law 2722 = .ok (.iload 4, 2) := dc_iload (by decide +kernel) (a := 4) (by decide +kernel) rfl
theorem dL_law_2724 : decode cL_law 2724 = .ok (.iconst 2, 1) := dc_iconst_2 (by decide +kernel)
theorem dL_law_2725 : decode cL_law 2725 = .ok (.iadd, 1) := dc_iadd (by decide +kernel)
theorem dL_law_2726 : decode cL_law 2726 = .ok (.iaload, 1) := dc_iaload (by decide +kernel)
theorem dL_law_2727 : decode cL_law 2727 = .ok (.aload_n 0, 1) := dc_aload_n_0 (by decide +kernel)
theorem dL_law_2728 : decode cL_law 2728 = .ok (.iload 4, 2) := dc_iload (by decide +kernel) (a := 4) (by decide +kernel) rfl
theorem dL_law_2730 : decode cL_law 2730 = .ok (.iconst 3, 1) := dc_iconst_3 (by decide +kernel)
theorem dL_law_2731 : decode cL_law 2731 = .ok (.iadd, 1) := dc_iadd (by decide +kernel)
theorem dL_law_2732 : decode cL_law 2732 = .ok (.iaload, 1) := dc_iaload (by decide +kernel)
theorem dL_law_2733 : decode cL_law 2733 = .ok (.aload_n 0, 1) := dc_aload_n_0 (by decide +kernel)
theorem dL_law_2734 : decode cL_law 2734 = .ok (.iload 4, 2) := dc_iload (by decide +kernel) (a := 4) (by decide +kernel) rfl
theorem dL_law_2736 : decode cL_law 2736 = .ok (.iconst 4, 1) := dc_iconst_4 (by decide +kernel)
theorem dL_law_2737 : decode cL_law 2737 = .ok (.iadd, 1) := dc_iadd (by decide +kernel)
theorem dL_law_2738 : decode cL_law 2738 = .ok (.iaload, 1) := dc_iaload (by decide +kernel)
theorem dL_law_2739 : decode cL_law 2739 = .ok (.ifCond .eq 7, 3) := dc_ifCond_eq (by decide +kernel) (a := 0) (b := 7) (by decide +kernel) (by decide +kernel) (by decide)
theorem dL_law_2742 : decode cL_law 2742 = .ok (.iconst 1, 1) := dc_iconst_1 (by decide +kernel)
theorem dL_law_2743 : decode cL_law 2743 = .ok (.goto 4, 3) := dc_goto (by decide +kernel) (a := 0) (b := 4) (by decide +kernel) (by decide +kernel) (by decide)
theorem dL_law_2746 : decode cL_law 2746 = .ok (.iconst 0, 1) := dc_iconst_0 (by decide +kernel)
theorem dL_law_2747 : decode cL_law 2747 = .ok (.aload_n 3, 1) := dc_aload_n_3 (by decide +kernel)
theorem dL_law_2748 : decode cL_law 2748 = .ok (.invokestatic 289, 3) := dc_invokestatic (by decide +kernel) (a := 1) (b := 33) (by decide +kernel) (by decide +kernel) rfl
theorem dL_law_2751 : decode cL_law 2751 = .ok (.istore 5, 2) := dc_istore (by decide +kernel) (a := 5) (by decide +kernel) rfl
theorem dL_law_2753 : decode cL_law 2753 = .ok (.aload_n 2, 1) := dc_aload_n_2 (by decide +kernel)
theorem dL_law_2754 : decode cL_law 2754 = .ok (.aload_n 0, 1) := dc_aload_n_0 (by decide +kernel)
theorem dL_law_2755 : decode cL_law 2755 = .ok (.iload 4, 2) := dc_iload (by decide +kernel) (a := 4) (by decide +kernel) rfl
theorem dL_law_2757 : decode cL_law 2757 = .ok (.iconst 1, 1) := dc_iconst_1 (by decide +kernel)
theorem dL_law_2758 : decode cL_law 2758 = .ok (.iadd, 1) := dc_iadd (by decide +kernel)
theorem dL_law_2759 : decode cL_law 2759 = .ok (.iaload, 1) := dc_iaload (by decide +kernel)
theorem dL_law_2760 : decode cL_law 2760 = .ok (.aload_n 0, 1) := dc_aload_n_0 (by decide +kernel)
theorem dL_law_2761 : decode cL_law 2761 = .ok (.iload 4, 2) := dc_iload (by decide +kernel) (a := 4) (by decide +kernel) rfl
theorem dL_law_2763 : decode cL_law 2763 = .ok (.iconst 2, 1) := dc_iconst_2 (by decide +kernel)
theorem dL_law_2764 : decode cL_law 2764 = .ok (.iadd, 1) := dc_iadd (by decide +kernel)
theorem dL_law_2765 : decode cL_law 2765 = .ok (.iaload, 1) := dc_iaload (by decide +kernel)
theorem dL_law_2766 : decode cL_law 2766 = .ok (.aload_n 0, 1) := dc_aload_n_0 (by decide +kernel)
theorem dL_law_2767 : decode cL_law 2767 = .ok (.iload 4, 2) := dc_iload (by decide +kernel) (a := 4) (by decide +kernel) rfl
theorem dL_law_2769 : decode cL_law 2769 = .ok (.iconst 3, 1) := dc_iconst_3 (by decide +kernel)
theorem dL_law_2770 : decode cL_law 2770 = .ok (.iadd, 1) := dc_iadd (by decide +kernel)
theorem dL_law_2771 : decode cL_law 2771 = .ok (.iaload, 1) := dc_iaload (by decide +kernel)
theorem dL_law_2772 : decode cL_law 2772 = .ok (.aload_n 0, 1) := dc_aload_n_0 (by decide +kernel)
theorem dL_law_2773 : decode cL_law 2773 = .ok (.iload 4, 2) := dc_iload (by decide +kernel) (a := 4) (by decide +kernel) rfl
theorem dL_law_2775 : decode cL_law 2775 = .ok (.iconst 4, 1) := dc_iconst_4 (by decide +kernel)
theorem dL_law_2776 : decode cL_law 2776 = .ok (.iadd, 1) := dc_iadd (by decide +kernel)
theorem dL_law_2777 : decode cL_law 2777 = .ok (.iaload, 1) := dc_iaload (by decide +kernel)
theorem dL_law_2778 : decode cL_law 2778 = .ok (.ifCond .eq 7, 3) := dc_ifCond_eq (by decide +kernel) (a := 0) (b := 7) (by decide +kernel) (by decide +kernel) (by decide)
theorem dL_law_2781 : decode cL_law 2781 = .ok (.iconst 1, 1) := dc_iconst_1 (by decide +kernel)
theorem dL_law_2782 : decode cL_law 2782 = .ok (.goto 4, 3) := dc_goto (by decide +kernel) (a := 0) (b := 4) (by decide +kernel) (by decide +kernel) (by decide)
theorem dL_law_2785 : decode cL_law 2785 = .ok (.iconst 0, 1) := dc_iconst_0 (by decide +kernel)
theorem dL_law_2786 : decode cL_law 2786 = .ok (.invokevirtual 291, 3) := dc_invokevirtual (by decide +kernel) (a := 1) (b := 35) (by decide +kernel) (by decide +kernel) rfl
theorem dL_law_2789 : decode cL_law 2789 = .ok (.istore 6, 2) := dc_istore (by decide +kernel) (a := 6) (by decide +kernel) rfl
theorem dL_law_2791 : decode cL_law 2791 = .ok (.aload_n 2, 1) := dc_aload_n_2 (by decide +kernel)
theorem dL_law_2792 : decode cL_law 2792 = .ok (.invokevirtual 183, 3) := dc_invokevirtual (by decide +kernel) (a := 0) (b := 183) (by decide +kernel) (by decide +kernel) rfl
theorem dL_law_2795 : decode cL_law 2795 = .ok (.iload 5, 2) := dc_iload (by decide +kernel) (a := 5) (by decide +kernel) rfl
theorem dL_law_2797 : decode cL_law 2797 = .ok (.if_icmp .eq 5, 3) := dc_if_icmp_eq (by decide +kernel) (a := 0) (b := 5) (by decide +kernel) (by decide +kernel) (by decide)
theorem dL_law_2800 : decode cL_law 2800 = .ok (.iconst 0, 1) := dc_iconst_0 (by decide +kernel)
theorem dL_law_2801 : decode cL_law 2801 = .ok (.ireturn, 1) := dc_ireturn (by decide +kernel)
theorem dL_law_2802 : decode cL_law 2802 = .ok (.iload 5, 2) := dc_iload (by decide +kernel) (a := 5) (by decide +kernel) rfl
theorem dL_law_2804 : decode cL_law 2804 = .ok (.ifCond .ne 15, 3) := dc_ifCond_ne (by decide +kernel) (a := 0) (b := 15) (by decide +kernel) (by decide +kernel) (by decide)
theorem dL_law_2807 : decode cL_law 2807 = .ok (.aload_n 3, 1) := dc_aload_n_3 (by decide +kernel)
theorem dL_law_2808 : decode cL_law 2808 = .ok (.iconst 0, 1) := dc_iconst_0 (by decide +kernel)
theorem dL_law_2809 : decode cL_law 2809 = .ok (.laload, 1) := dc_laload (by decide +kernel)
theorem dL_law_2810 : decode cL_law 2810 = .ok (.iload 6, 2) := dc_iload (by decide +kernel) (a := 6) (by decide +kernel) rfl
theorem dL_law_2812 : decode cL_law 2812 = .ok (.i2l, 1) := dc_i2l (by decide +kernel)
theorem dL_law_2813 : decode cL_law 2813 = .ok (.lcmp, 1) := dc_lcmp (by decide +kernel)
theorem dL_law_2814 : decode cL_law 2814 = .ok (.ifCond .eq 5, 3) := dc_ifCond_eq (by decide +kernel) (a := 0) (b := 5) (by decide +kernel) (by decide +kernel) (by decide)
theorem dL_law_2817 : decode cL_law 2817 = .ok (.iconst 0, 1) := dc_iconst_0 (by decide +kernel)
theorem dL_law_2818 : decode cL_law 2818 = .ok (.ireturn, 1) := dc_ireturn (by decide +kernel)
theorem dL_law_2819 : decode cL_law 2819 = .ok (.goto 1732, 3) := dc_goto (by decide +kernel) (a := 6) (b := 196) (by decide +kernel) (by decide +kernel) (by decide)
theorem dL_law_2822 : decode cL_law 2822 = .ok (.aload_n 1, 1) := dc_aload_n_1 (by decide +kernel)
theorem dL_law_2823 : decode cL_law 2823 = .ok (.aload_n 0, 1) := dc_aload_n_0 (by decide +kernel)
theorem dL_law_2824 : decode cL_law 2824 = .ok (.iload 4, 2) := dc_iload (by decide +kernel) (a := 4) (by decide +kernel) rfl
theorem dL_law_2826 : decode cL_law 2826 = .ok (.iconst 1, 1) := dc_iconst_1 (by decide +kernel)
theorem dL_law_2827 : decode cL_law 2827 = .ok (.iadd, 1) := dc_iadd (by decide +kernel)
theorem dL_law_2828 : decode cL_law 2828 = .ok (.iaload, 1) := dc_iaload (by decide +kernel)
theorem dL_law_2829 : decode cL_law 2829 = .ok (.aload_n 0, 1) := dc_aload_n_0 (by decide +kernel)
theorem dL_law_2830 : decode cL_law 2830 = .ok (.iload 4, 2) := dc_iload (by decide +kernel) (a := 4) (by decide +kernel) rfl
theorem dL_law_2832 : decode cL_law 2832 = .ok (.iconst 2, 1) := dc_iconst_2 (by decide +kernel)
theorem dL_law_2833 : decode cL_law 2833 = .ok (.iadd, 1) := dc_iadd (by decide +kernel)
theorem dL_law_2834 : decode cL_law 2834 = .ok (.iaload, 1) := dc_iaload (by decide +kernel)
theorem dL_law_2835 : decode cL_law 2835 = .ok (.aload_n 0, 1) := dc_aload_n_0 (by decide +kernel)
theorem dL_law_2836 : decode cL_law 2836 = .ok (.iload 4, 2) := dc_iload (by decide +kernel) (a := 4) (by decide +kernel) rfl
theorem dL_law_2838 : decode cL_law 2838 = .ok (.iconst 3, 1) := dc_iconst_3 (by decide +kernel)
theorem dL_law_2839 : decode cL_law 2839 = .ok (.iadd, 1) := dc_iadd (by decide +kernel)
theorem dL_law_2840 : decode cL_law 2840 = .ok (.iaload, 1) := dc_iaload (by decide +kernel)
theorem dL_law_2841 : decode cL_law 2841 = .ok (.aload_n 3, 1) := dc_aload_n_3 (by decide +kernel)
theorem dL_law_2842 : decode cL_law 2842 = .ok (.invokestatic 292, 3) := dc_invokestatic (by decide +kernel) (a := 1) (b := 36) (by decide +kernel) (by decide +kernel) rfl
theorem dL_law_2845 : decode cL_law 2845 = .ok (.istore 5, 2) := dc_istore (by decide +kernel) (a := 5) (by decide +kernel) rfl
theorem dL_law_2847 : decode cL_law 2847 = .ok (.aload_n 2, 1) := dc_aload_n_2 (by decide +kernel)
theorem dL_law_2848 : decode cL_law 2848 = .ok (.aload_n 0, 1) := dc_aload_n_0 (by decide +kernel)
theorem dL_law_2849 : decode cL_law 2849 = .ok (.iload 4, 2) := dc_iload (by decide +kernel) (a := 4) (by decide +kernel) rfl
theorem dL_law_2851 : decode cL_law 2851 = .ok (.iconst 1, 1) := dc_iconst_1 (by decide +kernel)
theorem dL_law_2852 : decode cL_law 2852 = .ok (.iadd, 1) := dc_iadd (by decide +kernel)
theorem dL_law_2853 : decode cL_law 2853 = .ok (.iaload, 1) := dc_iaload (by decide +kernel)
theorem dL_law_2854 : decode cL_law 2854 = .ok (.aload_n 0, 1) := dc_aload_n_0 (by decide +kernel)
theorem dL_law_2855 : decode cL_law 2855 = .ok (.iload 4, 2) := dc_iload (by decide +kernel) (a := 4) (by decide +kernel) rfl
theorem dL_law_2857 : decode cL_law 2857 = .ok (.iconst 2, 1) := dc_iconst_2 (by decide +kernel)
theorem dL_law_2858 : decode cL_law 2858 = .ok (.iadd, 1) := dc_iadd (by decide +kernel)
theorem dL_law_2859 : decode cL_law 2859 = .ok (.iaload, 1) := dc_iaload (by decide +kernel)
theorem dL_law_2860 : decode cL_law 2860 = .ok (.aload_n 0, 1) := dc_aload_n_0 (by decide +kernel)
theorem dL_law_2861 : decode cL_law 2861 = .ok (.iload 4, 2) := dc_iload (by decide +kernel) (a := 4) (by decide +kernel) rfl
theorem dL_law_2863 : decode cL_law 2863 = .ok (.iconst 3, 1) := dc_iconst_3 (by decide +kernel)
theorem dL_law_2864 : decode cL_law 2864 = .ok (.iadd, 1) := dc_iadd (by decide +kernel)
theorem dL_law_2865 : decode cL_law 2865 = .ok (.iaload, 1) := dc_iaload (by decide +kernel)
theorem dL_law_2866 : decode cL_law 2866 = .ok (.invokevirtual 294, 3) := dc_invokevirtual (by decide +kernel) (a := 1) (b := 38) (by decide +kernel) (by decide +kernel) rfl
theorem dL_law_2869 : decode cL_law 2869 = .ok (.istore 6, 2) := dc_istore (by decide +kernel) (a := 6) (by decide +kernel) rfl
theorem dL_law_2871 : decode cL_law 2871 = .ok (.aload_n 2, 1) := dc_aload_n_2 (by decide +kernel)
theorem dL_law_2872 : decode cL_law 2872 = .ok (.invokevirtual 183, 3) := dc_invokevirtual (by decide +kernel) (a := 0) (b := 183) (by decide +kernel) (by decide +kernel) rfl
theorem dL_law_2875 : decode cL_law 2875 = .ok (.iload 5, 2) := dc_iload (by decide +kernel) (a := 5) (by decide +kernel) rfl
theorem dL_law_2877 : decode cL_law 2877 = .ok (.if_icmp .eq 5, 3) := dc_if_icmp_eq (by decide +kernel) (a := 0) (b := 5) (by decide +kernel) (by decide +kernel) (by decide)
theorem dL_law_2880 : decode cL_law 2880 = .ok (.iconst 0, 1) := dc_iconst_0 (by decide +kernel)
theorem dL_law_2881 : decode cL_law 2881 = .ok (.ireturn, 1) := dc_ireturn (by decide +kernel)
theorem dL_law_2882 : decode cL_law 2882 = .ok (.iload 5, 2) := dc_iload (by decide +kernel) (a := 5) (by decide +kernel) rfl
theorem dL_law_2884 : decode cL_law 2884 = .ok (.ifCond .ne 15, 3) := dc_ifCond_ne (by decide +kernel) (a := 0) (b := 15) (by decide +kernel) (by decide +kernel) (by decide)
theorem dL_law_2887 : decode cL_law 2887 = .ok (.aload_n 3, 1) := dc_aload_n_3 (by decide +kernel)
theorem dL_law_2888 : decode cL_law 2888 = .ok (.iconst 0, 1) := dc_iconst_0 (by decide +kernel)
theorem dL_law_2889 : decode cL_law 2889 = .ok (.laload, 1) := dc_laload (by decide +kernel)
theorem dL_law_2890 : decode cL_law 2890 = .ok (.iload 6, 2) := dc_iload (by decide +kernel) (a := 6) (by decide +kernel) rfl
theorem dL_law_2892 : decode cL_law 2892 = .ok (.i2l, 1) := dc_i2l (by decide +kernel)
theorem dL_law_2893 : decode cL_law 2893 = .ok (.lcmp, 1) := dc_lcmp (by decide +kernel)
theorem dL_law_2894 : decode cL_law 2894 = .ok (.ifCond .eq 5, 3) := dc_ifCond_eq (by decide +kernel) (a := 0) (b := 5) (by decide +kernel) (by decide +kernel) (by decide)
theorem dL_law_2897 : decode cL_law 2897 = .ok (.iconst 0, 1) := dc_iconst_0 (by decide +kernel)
theorem dL_law_2898 : decode cL_law 2898 = .ok (.ireturn, 1) := dc_ireturn (by decide +kernel)
theorem dL_law_2899 : decode cL_law 2899 = .ok (.goto 1652, 3) := dc_goto (by decide +kernel) (a := 6) (b := 116) (by decide +kernel) (by decide +kernel) (by decide)
theorem dL_law_2902 : decode cL_law 2902 = .ok (.aload_n 1, 1) := dc_aload_n_1 (by decide +kernel)
theorem dL_law_2903 : decode cL_law 2903 = .ok (.aload_n 0, 1) := dc_aload_n_0 (by decide +kernel)
theorem dL_law_2904 : decode cL_law 2904 = .ok (.iload 4, 2) := dc_iload (by decide +kernel) (a := 4) (by decide +kernel) rfl
theorem dL_law_2906 : decode cL_law 2906 = .ok (.iconst 1, 1) := dc_iconst_1 (by decide +kernel)
theorem dL_law_2907 : decode cL_law 2907 = .ok (.iadd, 1) := dc_iadd (by decide +kernel)
theorem dL_law_2908 : decode cL_law 2908 = .ok (.iaload, 1) := dc_iaload (by decide +kernel)
theorem dL_law_2909 : decode cL_law 2909 = .ok (.aload_n 0, 1) := dc_aload_n_0 (by decide +kernel)
theorem dL_law_2910 : decode cL_law 2910 = .ok (.iload 4, 2) := dc_iload (by decide +kernel) (a := 4) (by decide +kernel) rfl
theorem dL_law_2912 : decode cL_law 2912 = .ok (.iconst 2, 1) := dc_iconst_2 (by decide +kernel)
theorem dL_law_2913 : decode cL_law 2913 = .ok (.iadd, 1) := dc_iadd (by decide +kernel)
theorem dL_law_2914 : decode cL_law 2914 = .ok (.iaload, 1) := dc_iaload (by decide +kernel)
theorem dL_law_2915 : decode cL_law 2915 = .ok (.aload_n 0, 1) := dc_aload_n_0 (by decide +kernel)
theorem dL_law_2916 : decode cL_law 2916 = .ok (.iload 4, 2) := dc_iload (by decide +kernel) (a := 4) (by decide +kernel) rfl
theorem dL_law_2918 : decode cL_law 2918 = .ok (.iconst 3, 1) := dc_iconst_3 (by decide +kernel)
theorem dL_law_2919 : decode cL_law 2919 = .ok (.iadd, 1) := dc_iadd (by decide +kernel)
theorem dL_law_2920 : decode cL_law 2920 = .ok (.iaload, 1) := dc_iaload (by decide +kernel)
theorem dL_law_2921 : decode cL_law 2921 = .ok (.aload_n 3, 1) := dc_aload_n_3 (by decide +kernel)
theorem dL_law_2922 : decode cL_law 2922 = .ok (.invokestatic 295, 3) := dc_invokestatic (by decide +kernel) (a := 1) (b := 39) (by decide +kernel) (by decide +kernel) rfl
theorem dL_law_2925 : decode cL_law 2925 = .ok (.istore 5, 2) := dc_istore (by decide +kernel) (a := 5) (by decide +kernel) rfl
theorem dL_law_2927 : decode cL_law 2927 = .ok (.aload_n 2, 1) := dc_aload_n_2 (by decide +kernel)
theorem dL_law_2928 : decode cL_law 2928 = .ok (.aload_n 0, 1) := dc_aload_n_0 (by decide +kernel)
theorem dL_law_2929 : decode cL_law 2929 = .ok (.iload 4, 2) := dc_iload (by decide +kernel) (a := 4) (by decide +kernel) rfl
theorem dL_law_2931 : decode cL_law 2931 = .ok (.iconst 1, 1) := dc_iconst_1 (by decide +kernel)
theorem dL_law_2932 : decode cL_law 2932 = .ok (.iadd, 1) := dc_iadd (by decide +kernel)
theorem dL_law_2933 : decode cL_law 2933 = .ok (.iaload, 1) := dc_iaload (by decide +kernel)
theorem dL_law_2934 : decode cL_law 2934 = .ok (.aload_n 0, 1) := dc_aload_n_0 (by decide +kernel)
theorem dL_law_2935 : decode cL_law 2935 = .ok (.iload 4, 2) := dc_iload (by decide +kernel) (a := 4) (by decide +kernel) rfl
theorem dL_law_2937 : decode cL_law 2937 = .ok (.iconst 2, 1) := dc_iconst_2 (by decide +kernel)
theorem dL_law_2938 : decode cL_law 2938 = .ok (.iadd, 1) := dc_iadd (by decide +kernel)
theorem dL_law_2939 : decode cL_law 2939 = .ok (.iaload, 1) := dc_iaload (by decide +kernel)
theorem dL_law_2940 : decode cL_law 2940 = .ok (.aload_n 0, 1) := dc_aload_n_0 (by decide +kernel)
theorem dL_law_2941 : decode cL_law 2941 = .ok (.iload 4, 2) := dc_iload (by decide +kernel) (a := 4) (by decide +kernel) rfl
theorem dL_law_2943 : decode cL_law 2943 = .ok (.iconst 3, 1) := dc_iconst_3 (by decide +kernel)
theorem dL_law_2944 : decode cL_law 2944 = .ok (.iadd, 1) := dc_iadd (by decide +kernel)
theorem dL_law_2945 : decode cL_law 2945 = .ok (.iaload, 1) := dc_iaload (by decide +kernel)
theorem dL_law_2946 : decode cL_law 2946 = .ok (.invokevirtual 297, 3) := dc_invokevirtual (by decide +kernel) (a := 1) (b := 41) (by decide +kernel) (by decide +kernel) rfl
theorem dL_law_2949 : decode cL_law 2949 = .ok (.istore 6, 2) := dc_istore (by decide +kernel) (a := 6) (by decide +kernel) rfl
theorem dL_law_2951 : decode cL_law 2951 = .ok (.aload_n 2, 1) := dc_aload_n_2 (by decide +kernel)
theorem dL_law_2952 : decode cL_law 2952 = .ok (.invokevirtual 183, 3) := dc_invokevirtual (by decide +kernel) (a := 0) (b := 183) (by decide +kernel) (by decide +kernel) rfl
theorem dL_law_2955 : decode cL_law 2955 = .ok (.iload 5, 2) := dc_iload (by decide +kernel) (a := 5) (by decide +kernel) rfl
theorem dL_law_2957 : decode cL_law 2957 = .ok (.if_icmp .eq 5, 3) := dc_if_icmp_eq (by decide +kernel) (a := 0) (b := 5) (by decide +kernel) (by decide +kernel) (by decide)
theorem dL_law_2960 : decode cL_law 2960 = .ok (.iconst 0, 1) := dc_iconst_0 (by decide +kernel)
theorem dL_law_2961 : decode cL_law 2961 = .ok (.ireturn, 1) := dc_ireturn (by decide +kernel)
theorem dL_law_2962 : decode cL_law 2962 = .ok (.iload 5, 2) := dc_iload (by decide +kernel) (a := 5) (by decide +kernel) rfl
theorem dL_law_2964 : decode cL_law 2964 = .ok (.ifCond .ne 15, 3) := dc_ifCond_ne (by decide +kernel) (a := 0) (b := 15) (by decide +kernel) (by decide +kernel) (by decide)
theorem dL_law_2967 : decode cL_law 2967 = .ok (.aload_n 3, 1) := dc_aload_n_3 (by decide +kernel)
theorem dL_law_2968 : decode cL_law 2968 = .ok (.iconst 0, 1) := dc_iconst_0 (by decide +kernel)
theorem dL_law_2969 : decode cL_law 2969 = .ok (.laload, 1) := dc_laload (by decide +kernel)
theorem dL_law_2970 : decode cL_law 2970 = .ok (.iload 6, 2) := dc_iload (by decide +kernel) (a := 6) (by decide +kernel) rfl
theorem dL_law_2972 : decode cL_law 2972 = .ok (.i2l, 1) := dc_i2l (by decide +kernel)
theorem dL_law_2973 : decode cL_law 2973 = .ok (.lcmp, 1) := dc_lcmp (by decide +kernel)
theorem dL_law_2974 : decode cL_law 2974 = .ok (.ifCond .eq 5, 3) := dc_ifCond_eq (by decide +kernel) (a := 0) (b := 5) (by decide +kernel) (by decide +kernel) (by decide)
theorem dL_law_2977 : decode cL_law 2977 = .ok (.iconst 0, 1) := dc_iconst_0 (by decide +kernel)
theorem dL_law_2978 : decode cL_law 2978 = .ok (.ireturn, 1) := dc_ireturn (by decide +kernel)
theorem dL_law_2979 : decode cL_law 2979 = .ok (.goto 1572, 3) := dc_goto (by decide +kernel) (a := 6) (b := 36) (by decide +kernel) (by decide +kernel) (by decide)
theorem dL_law_2982 : decode cL_law 2982 = .ok (.aload_n 1, 1) := dc_aload_n_1 (by decide +kernel)
theorem dL_law_2983 : decode cL_law 2983 = .ok (.aload_n 0, 1) := dc_aload_n_0 (by decide +kernel)
theorem dL_law_2984 : decode cL_law 2984 = .ok (.iload 4, 2) := dc_iload (by decide +kernel) (a := 4) (by decide +kernel) rfl
theorem dL_law_2986 : decode cL_law 2986 = .ok (.iconst 1, 1) := dc_iconst_1 (by decide +kernel)
theorem dL_law_2987 : decode cL_law 2987 = .ok (.iadd, 1) := dc_iadd (by decide +kernel)
theorem dL_law_2988 : decode cL_law 2988 = .ok (.iaload, 1) := dc_iaload (by decide +kernel)
theorem dL_law_2989 : decode cL_law 2989 = .ok (.aload_n 0, 1) := dc_aload_n_0 (by decide +kernel)
theorem dL_law_2990 : decode cL_law 2990 = .ok (.iload 4, 2) := dc_iload (by decide +kernel) (a := 4) (by decide +kernel) rfl
theorem dL_law_2992 : decode cL_law 2992 = .ok (.iconst 2, 1) := dc_iconst_2 (by decide +kernel)
theorem dL_law_2993 : decode cL_law 2993 = .ok (.iadd, 1) := dc_iadd (by decide +kernel)
theorem dL_law_2994 : decode cL_law 2994 = .ok (.iaload, 1) := dc_iaload (by decide +kernel)
theorem dL_law_2995 : decode cL_law 2995 = .ok (.aload_n 0, 1) := dc_aload_n_0 (by decide +kernel)
theorem dL_law_2996 : decode cL_law 2996 = .ok (.iload 4, 2) := dc_iload (by decide +kernel) (a := 4) (by decide +kernel) rfl
theorem dL_law_2998 : decode cL_law 2998 = .ok (.iconst 3, 1) := dc_iconst_3 (by decide +kernel)
theorem dL_law_2999 : decode cL_law 2999 = .ok (.iadd, 1) := dc_iadd (by decide +kernel)
theorem dL_law_3000 : decode cL_law 3000 = .ok (.iaload, 1) := dc_iaload (by decide +kernel)
theorem dL_law_3001 : decode cL_law 3001 = .ok (.aload_n 3, 1) := dc_aload_n_3 (by decide +kernel)
theorem dL_law_3002 : decode cL_law 3002 = .ok (.invokestatic 298, 3) := dc_invokestatic (by decide +kernel) (a := 1) (b := 42) (by decide +kernel) (by decide +kernel) rfl
theorem dL_law_3005 : decode cL_law 3005 = .ok (.istore 5, 2) := dc_istore (by decide +kernel) (a := 5) (by decide +kernel) rfl
theorem dL_law_3007 : decode cL_law 3007 = .ok (.aload_n 2, 1) := dc_aload_n_2 (by decide +kernel)
theorem dL_law_3008 : decode cL_law 3008 = .ok (.aload_n 0, 1) := dc_aload_n_0 (by decide +kernel)
theorem dL_law_3009 : decode cL_law 3009 = .ok (.iload 4, 2) := dc_iload (by decide +kernel) (a := 4) (by decide +kernel) rfl
theorem dL_law_3011 : decode cL_law 3011 = .ok (.iconst 1, 1) := dc_iconst_1 (by decide +kernel)
theorem dL_law_3012 : decode cL_law 3012 = .ok (.iadd, 1) := dc_iadd (by decide +kernel)
theorem dL_law_3013 : decode cL_law 3013 = .ok (.iaload, 1) := dc_iaload (by decide +kernel)
theorem dL_law_3014 : decode cL_law 3014 = .ok (.aload_n 0, 1) := dc_aload_n_0 (by decide +kernel)
theorem dL_law_3015 : decode cL_law 3015 = .ok (.iload 4, 2) := dc_iload (by decide +kernel) (a := 4) (by decide +kernel) rfl
theorem dL_law_3017 : decode cL_law 3017 = .ok (.iconst 2, 1) := dc_iconst_2 (by decide +kernel)
theorem dL_law_3018 : decode cL_law 3018 = .ok (.iadd, 1) := dc_iadd (by decide +kernel)
theorem dL_law_3019 : decode cL_law 3019 = .ok (.iaload, 1) := dc_iaload (by decide +kernel)
theorem dL_law_3020 : decode cL_law 3020 = .ok (.aload_n 0, 1) := dc_aload_n_0 (by decide +kernel)
theorem dL_law_3021 : decode cL_law 3021 = .ok (.iload 4, 2) := dc_iload (by decide +kernel) (a := 4) (by decide +kernel) rfl
theorem dL_law_3023 : decode cL_law 3023 = .ok (.iconst 3, 1) := dc_iconst_3 (by decide +kernel)
theorem dL_law_3024 : decode cL_law 3024 = .ok (.iadd, 1) := dc_iadd (by decide +kernel)
theorem dL_law_3025 : decode cL_law 3025 = .ok (.iaload, 1) := dc_iaload (by decide +kernel)
theorem dL_law_3026 : decode cL_law 3026 = .ok (.invokevirtual 300, 3) := dc_invokevirtual (by decide +kernel) (a := 1) (b := 44) (by decide +kernel) (by decide +kernel) rfl
theorem dL_law_3029 : decode cL_law 3029 = .ok (.istore 6, 2) := dc_istore (by decide +kernel) (a := 6) (by decide +kernel) rfl
theorem dL_law_3031 : decode cL_law 3031 = .ok (.aload_n 2, 1) := dc_aload_n_2 (by decide +kernel)
theorem dL_law_3032 : decode cL_law 3032 = .ok (.invokevirtual 183, 3) := dc_invokevirtual (by decide +kernel) (a := 0) (b := 183) (by decide +kernel) (by decide +kernel) rfl
theorem dL_law_3035 : decode cL_law 3035 = .ok (.iload 5, 2) := dc_iload (by decide +kernel) (a := 5) (by decide +kernel) rfl
theorem dL_law_3037 : decode cL_law 3037 = .ok (.if_icmp .eq 5, 3) := dc_if_icmp_eq (by decide +kernel) (a := 0) (b := 5) (by decide +kernel) (by decide +kernel) (by decide)
theorem dL_law_3040 : decode cL_law 3040 = .ok (.iconst 0, 1) := dc_iconst_0 (by decide +kernel)
theorem dL_law_3041 : decode cL_law 3041 = .ok (.ireturn, 1) := dc_ireturn (by decide +kernel)
theorem dL_law_3042 : decode cL_law 3042 = .ok (.iload 5, 2) := dc_iload (by decide +kernel) (a := 5) (by decide +kernel) rfl
theorem dL_law_3044 : decode cL_law 3044 = .ok (.ifCond .ne 15, 3) := dc_ifCond_ne (by decide +kernel) (a := 0) (b := 15) (by decide +kernel) (by decide +kernel) (by decide)
theorem dL_law_3047 : decode cL_law 3047 = .ok (.aload_n 3, 1) := dc_aload_n_3 (by decide +kernel)
theorem dL_law_3048 : decode cL_law 3048 = .ok (.iconst 0, 1) := dc_iconst_0 (by decide +kernel)
theorem dL_law_3049 : decode cL_law 3049 = .ok (.laload, 1) := dc_laload (by decide +kernel)
theorem dL_law_3050 : decode cL_law 3050 = .ok (.iload 6, 2) := dc_iload (by decide +kernel) (a := 6) (by decide +kernel) rfl
theorem dL_law_3052 : decode cL_law 3052 = .ok (.i2l, 1) := dc_i2l (by decide +kernel)
theorem dL_law_3053 : decode cL_law 3053 = .ok (.lcmp, 1) := dc_lcmp (by decide +kernel)
theorem dL_law_3054 : decode cL_law 3054 = .ok (.ifCond .eq 5, 3) := dc_ifCond_eq (by decide +kernel) (a := 0) (b := 5) (by decide +kernel) (by decide +kernel) (by decide)
theorem dL_law_3057 : decode cL_law 3057 = .ok (.iconst 0, 1) := dc_iconst_0 (by decide +kernel)
theorem dL_law_3058 : decode cL_law 3058 = .ok (.ireturn, 1) := dc_ireturn (by decide +kernel)
theorem dL_law_3059 : decode cL_law 3059 = .ok (.goto 1492, 3) := dc_goto (by decide +kernel) (a := 5) (b := 212) (by decide +kernel) (by decide +kernel) (by decide)
theorem dL_law_3062 : decode cL_law 3062 = .ok (.aload_n 1, 1) := dc_aload_n_1 (by decide +kernel)
theorem dL_law_3063 : decode cL_law 3063 = .ok (.aload_n 0, 1) := dc_aload_n_0 (by decide +kernel)
theorem dL_law_3064 : decode cL_law 3064 = .ok (.iload 4, 2) := dc_iload (by decide +kernel) (a := 4) (by decide +kernel) rfl
theorem dL_law_3066 : decode cL_law 3066 = .ok (.iconst 1, 1) := dc_iconst_1 (by decide +kernel)
theorem dL_law_3067 : decode cL_law 3067 = .ok (.iadd, 1) := dc_iadd (by decide +kernel)
theorem dL_law_3068 : decode cL_law 3068 = .ok (.iaload, 1) := dc_iaload (by decide +kernel)
theorem dL_law_3069 : decode cL_law 3069 = .ok (.aload_n 0, 1) := dc_aload_n_0 (by decide +kernel)
theorem dL_law_3070 : decode cL_law 3070 = .ok (.iload 4, 2) := dc_iload (by decide +kernel) (a := 4) (by decide +kernel) rfl
theorem dL_law_3072 : decode cL_law 3072 = .ok (.iconst 2, 1) := dc_iconst_2 (by decide +kernel)
theorem dL_law_3073 : decode cL_law 3073 = .ok (.iadd, 1) := dc_iadd (by decide +kernel)
theorem dL_law_3074 : decode cL_law 3074 = .ok (.iaload, 1) := dc_iaload (by decide +kernel)
theorem dL_law_3075 : decode cL_law 3075 = .ok (.aload_n 3, 1) := dc_aload_n_3 (by decide +kernel)
theorem dL_law_3076 : decode cL_law 3076 = .ok (.invokestatic 301, 3) := dc_invokestatic (by decide +kernel) (a := 1) (b := 45) (by decide +kernel) (by decide +kernel) rfl
theorem dL_law_3079 : decode cL_law 3079 = .ok (.istore 5, 2) := dc_istore (by decide +kernel) (a := 5) (by decide +kernel) rfl
theorem dL_law_3081 : decode cL_law 3081 = .ok (.aload_n 2, 1) := dc_aload_n_2 (by decide +kernel)
theorem dL_law_3082 : decode cL_law 3082 = .ok (.aload_n 0, 1) := dc_aload_n_0 (by decide +kernel)
theorem dL_law_3083 : decode cL_law 3083 = .ok (.iload 4, 2) := dc_iload (by decide +kernel) (a := 4) (by decide +kernel) rfl
theorem dL_law_3085 : decode cL_law 3085 = .ok (.iconst 1, 1) := dc_iconst_1 (by decide +kernel)
theorem dL_law_3086 : decode cL_law 3086 = .ok (.iadd, 1) := dc_iadd (by decide +kernel)
theorem dL_law_3087 : decode cL_law 3087 = .ok (.iaload, 1) := dc_iaload (by decide +kernel)
theorem dL_law_3088 : decode cL_law 3088 = .ok (.aload_n 0, 1) := dc_aload_n_0 (by decide +kernel)
theorem dL_law_3089 : decode cL_law 3089 = .ok (.iload 4, 2) := dc_iload (by decide +kernel) (a := 4) (by decide +kernel) rfl
theorem dL_law_3091 : decode cL_law 3091 = .ok (.iconst 2, 1) := dc_iconst_2 (by decide +kernel)
theorem dL_law_3092 : decode cL_law 3092 = .ok (.iadd, 1) := dc_iadd (by decide +kernel)
theorem dL_law_3093 : decode cL_law 3093 = .ok (.iaload, 1) := dc_iaload (by decide +kernel)
theorem dL_law_3094 : decode cL_law 3094 = .ok (.invokevirtual 303, 3) := dc_invokevirtual (by decide +kernel) (a := 1) (b := 47) (by decide +kernel) (by decide +kernel) rfl
theorem dL_law_3097 : decode cL_law 3097 = .ok (.istore 6, 2) := dc_istore (by decide +kernel) (a := 6) (by decide +kernel) rfl
theorem dL_law_3099 : decode cL_law 3099 = .ok (.aload_n 2, 1) := dc_aload_n_2 (by decide +kernel)
theorem dL_law_3100 : decode cL_law 3100 = .ok (.invokevirtual 183, 3) := dc_invokevirtual (by decide +kernel) (a := 0) (b := 183) (by decide +kernel) (by decide +kernel) rfl
theorem dL_law_3103 : decode cL_law 3103 = .ok (.iload 5, 2) := dc_iload (by decide +kernel) (a := 5) (by decide +kernel) rfl
theorem dL_law_3105 : decode cL_law 3105 = .ok (.if_icmp .eq 5, 3) := dc_if_icmp_eq (by decide +kernel) (a := 0) (b := 5) (by decide +kernel) (by decide +kernel) (by decide)
theorem dL_law_3108 : decode cL_law 3108 = .ok (.iconst 0, 1) := dc_iconst_0 (by decide +kernel)
theorem dL_law_3109 : decode cL_law 3109 = .ok (.ireturn, 1) := dc_ireturn (by decide +kernel)
theorem dL_law_3110 : decode cL_law 3110 = .ok (.iload 5, 2) := dc_iload (by decide +kernel) (a := 5) (by decide +kernel) rfl
theorem dL_law_3112 : decode cL_law 3112 = .ok (.ifCond .ne 22, 3) := dc_ifCond_ne (by decide +kernel) (a := 0) (b := 22) (by decide +kernel) (by decide +kernel) (by decide)
theorem dL_law_3115 : decode cL_law 3115 = .ok (.aload_n 3, 1) := dc_aload_n_3 (by decide +kernel)
theorem dL_law_3116 : decode cL_law 3116 = .ok (.iconst 0, 1) := dc_iconst_0 (by decide +kernel)
theorem dL_law_3117 : decode cL_law 3117 = .ok (.laload, 1) := dc_laload (by decide +kernel)
theorem dL_law_3118 : decode cL_law 3118 = .ok (.iload 6, 2) := dc_iload (by decide +kernel) (a := 6) (by decide +kernel) rfl
theorem dL_law_3120 : decode cL_law 3120 = .ok (.ifCond .eq 7, 3) := dc_ifCond_eq (by decide +kernel) (a := 0) (b := 7) (by decide +kernel) (by decide +kernel) (by decide)
theorem dL_law_3123 : decode cL_law 3123 = .ok (.lconst 1, 1) := dc_lconst_1 (by decide +kernel)
theorem dL_law_3124 : decode cL_law 3124 = .ok (.goto 4, 3) := dc_goto (by decide +kernel) (a := 0) (b := 4) (by decide +kernel) (by decide +kernel) (by decide)
theorem dL_law_3127 : decode cL_law 3127 = .ok (.lconst 0, 1) := dc_lconst_0 (by decide +kernel)
